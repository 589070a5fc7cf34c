/** Edges of promises 22 to 31: what is best, winds that drop. */
public final class BestEdgeTest {
    private static final Edges EDGES = new Edges("BestEdgeTest");
    private static final int BAD = Edges.BAD, STATE = Edges.STATE, NONE = Edges.NONE;

    /** Each X and each Y brings a coop ashore: in HOUR 3, 4 or (from Y 9) 5. */
    private static final String ALL_IN = "wind 3 1;wind 4 1;wind 5 1;";

    public static void main(String[] args) {
        noTubsNoHeirs();
        p22When();
        p22WhenAtEachEnd();
        p23Aim();
        p23AimAtEachCorner();
        p24Ways();
        p24WaysNoneAndAll();
        p25Place();
        p25PlaceAtEachEnd();
        p26Hook();
        p26HookOfEachLength();
        p27Fire();
        p27FireAtEachEnd();
        p27FireOfSeveral();
        p27FireMoreThanAsItIs();
        p28Moon();
        p28MoonOfEachPhase();
        p29Rest();
        p29RestFromNoneToAll();
        p30Luck();
        p30LuckOfOdds();
        p30EightWindsAndNine();
        p31Mean();
        p31MeanFromNothingToAll();
        EDGES.finish();
    }

    private static void asks(String setup, String call, long want) {
        EDGES.behind(setup.split(", "));
        EDGES.still(call, want);
    }

    /** Without TUBS, without HEIRS: "there is no such TUB, HEIR" where one is named. */
    private static void noTubsNoHeirs() {
        EDGES.behind();
        for (String call : new String[] {"when 0 0", "aim 0 0", "ways 0 0", "place 0 0", "hook 0 1", "fire 0 0",
                "rest 0 1 0", "luck 0 0 0 0", "mean 0 0 0"}) {
            EDGES.still(call, BAD);
        }
        EDGES.still("moon 0", 0);
        EDGES.still("moon 1", 0);
        EDGES.behind("cast 4 1 3");
        for (String call : new String[] {"when 0 0", "aim 0 0", "place 0 0", "luck 0 0 0 0", "mean 0 0 0"}) {
            EDGES.still(call, BAD);
        }
        EDGES.still("ways 0 2", 30);
        EDGES.still("moon 1", 0);
        EDGES.behind("tell heir 4 0 23 9;");
        for (String call : new String[] {"when 0 0", "aim 0 0", "ways 0 0", "luck 0 0 0 0", "rest 0 0 0", "rest 0 1 0"}) {
            EDGES.still(call, BAD);
        }
        EDGES.still("place 0 0", 0);
        EDGES.still("place 0 1", 0);
        EDGES.still("hook 0 1", NONE);
        EDGES.still("fire 0 0", NONE);
        EDGES.still("moon 0", 0);
        EDGES.fraction("mean 5 0 .", 0, 1);
    }

    /** "The HOUR (0 to 23) at which a TUB is to be put in so that an HEIR HOOKS it .. BAD; NONE: at none." */
    private static void p22When() {
        EDGES.behind(Edges.BUSY);
        EDGES.bounds("when . 0", 0, 1);
        EDGES.bounds("when 0 .", 0, 1);
        EDGES.still("when 0 0", 3);
        EDGES.still("when 2 2", BAD);
        EDGES.behind("tell " + Edges.CROWD);
        EDGES.bounds("when . 3", 0, 3);
        EDGES.bounds("when 3 .", 0, 3);
    }

    /** "the first": HOUR 0, HOUR 23, none; that at which it is put in is one of them. */
    private static void p22WhenAtEachEnd() {
        asks("tell piano 4 1 20 1;wind 0 1;heir 4 0 0 0;", "when 0 0", 0);
        asks("tell piano 4 1 0 1;wind 0 1;heir 4 0 0 0;", "when 0 0", 0);
        asks("tell bottle 4 1 0 1;heir 4 23 23 0;heir 4 0 22 0;phase 4;", "when 0 0", 23);
        asks("tell bottle 4 1 0 1;heir 4 23 23 0;heir 4 0 22 0;phase 4;", "when 0 1", 0);
        asks("tell bottle 4 1 5 1;heir 4 0 23 0;", "when 0 0", 1);
        asks("tell bottle 4 1 5 1;heir 4 5 5 0;heir 4 0 4 0;current 2 4;", "when 0 0", 5);
        asks("tell bottle 4 1 5 1;heir 4 0 2 0;", "when 0 0", NONE);
        asks("tell bottle 4 1 5 1;heir 4 0 23 0;heir 4 0 23 9;", "when 0 1", NONE);
        asks("tell bottle 4 9 5 1;heir 4 0 23 9;", "when 0 0", NONE);
    }

    private static void p23Aim() {
        EDGES.behind(Edges.BUSY);
        EDGES.bounds("aim . 0", 0, 1);
        EDGES.bounds("aim 0 .", 0, 1);
        EDGES.still("aim 0 0", 1);
        EDGES.still("aim 2 2", BAD);
        EDGES.behind("tell " + Edges.CROWD);
        EDGES.bounds("aim . 3", 0, 3);
        EDGES.bounds("aim 3 .", 0, 3);
    }

    /** "10 times X and Y, the least": from 1 to 99, and nowhere; X counts ahead of Y. */
    private static void p23AimAtEachCorner() {
        for (int x = 0; x <= 9; x += 9) {
            String rest = ALL_IN + "heir " + x + " 5 5 0;heir " + x + " 3 4 0;heir " + (9 - x) + " 3 23 8;";
            asks("tell coop 5 5 3 1;" + rest, "aim 0 0", 10 * x + 9);
            asks("tell coop 5 5 3 1;" + rest, "aim 0 1", 10 * x + 1);
        }
        asks("tell coop 5 5 3 1;" + ALL_IN + "heir 3 3 3 2;", "aim 0 0", 11);
        asks("tell coop 9 9 3 1;" + ALL_IN + "heir 9 5 5 9;heir 9 3 4 9;", "aim 0 0", 9);
        asks("tell coop 5 5 3 1;" + ALL_IN + "heir 3 0 2 9;", "aim 0 0", NONE);
        asks("tell coop 5 5 0 1;wind 0 3;wind 1 3;wind 2 3;heir 3 0 23 9;", "aim 0 0", NONE);
        asks("tell bottle 9 9 3 1;heir 9 3 3 0;", "aim 0 0", 91);
    }

    private static void p24Ways() {
        EDGES.behind(Edges.BUSY);
        EDGES.bounds("ways . 0", 0, 1);
        EDGES.bounds("ways 0 .", 0, 3);
        EDGES.still("ways 2 4", BAD);
        EDGES.behind("tell " + Edges.CROWD);
        EDGES.bounds("ways . 3", 0, 3);
        // X 9 and Y 9 count: of the last row and of the last column it is LOST.
        asks("tell bottle 4 4 23 1;phase 1;", "ways 0 3", 10);
        asks("tell bottle 4 4 23 1;phase 1;", "ways 0 0", 80);
        asks("tell tub 4 4 23 1;wind 23 2;", "ways 0 3", 8);
        asks("tell tub 4 4 23 1;wind 23 2;", "ways 0 2", 10);
        asks("tell tub 4 4 23 1;wind 23 4;", "ways 0 3", 8);
        asks("tell bottle 4 4 23 1;heir 0 23 23 0;", "ways 0 1", 1);
        asks("tell bottle 4 4 23 1;heir 9 23 23 0;", "ways 0 1", 1);
    }

    /** From 0 to 90 for each WAY. */
    private static void p24WaysNoneAndAll() {
        String[] all = {"tell tub 4 4 23 1;wind 23 3;heir 4 0 23 9;", "tell coop 4 4 3 1;" + ALL_IN + "heir 0 0 23 9;",
            "tell coop 4 4 3 1;" + ALL_IN + "heir 0 0 2 9;", "tell coop 4 4 0 1;wind 0 3;wind 1 3;wind 2 3;heir 4 0 23 9;"};
        for (int of = 0; of <= 3; of++) {
            for (int way = 0; way <= 3; way++) asks(all[of], "ways 0 " + way, way == of ? 90 : 0);
        }
    }

    private static void p25Place() {
        EDGES.behind(Edges.BUSY);
        EDGES.bounds("place . 0", 0, 1);
        EDGES.bounds("place 0 .", 0, 1);
        EDGES.still("place 2 2", BAD);
        EDGES.still("place 0 0", 4);
        EDGES.still("place 0 1", 51);
        EDGES.behind("tell " + Edges.CROWD);
        EDGES.bounds("place . 0", 0, 3);
    }

    /** "of several the first (what 0), how much (1)": from PLACE 0 to 9, from nothing to all. */
    private static void p25PlaceAtEachEnd() {
        for (int x = 0; x <= 9; x++) {
            String text = "tell bottle " + x + " 1 3 7;heir 5 0 23 0;";
            asks(text, "place 0 0", x);
            asks(text, "place 0 1", 7);
        }
        asks("tell bottle 0 1 3 7;bottle 9 1 3 7;heir 9 0 23 0;", "place 0 0", 0);
        asks("tell bottle 0 1 3 7;bottle 9 1 3 8;heir 0 0 23 0;", "place 0 0", 9);
        asks("tell bottle 9 1 3 7;heir 5 0 23 9;", "place 0 0", 0);
        asks("tell bottle 9 1 3 7;heir 9 0 2 9;", "place 0 0", 0);
        asks("tell bottle 9 1 3 7;heir 9 0 2 9;", "place 0 1", 0);
        // Of two alike the first hooks: he who is told behind has to be nearer.
        asks("tell bottle 4 1 3 7;heir 3 0 23 9;heir 0 0 23 9;", "place 1 0", 4);
        asks("tell bottle 4 1 3 7;heir 4 0 23 9;heir 0 0 23 9;", "place 1 1", 0);
        String four = "tell bottle 1 1 3 99;bottle 4 1 3 99;bottle 7 1 3 99;bottle 9 1 3 99;";
        asks(four + "heir 0 0 23 4;", "place 0 1", 396);
        asks(four + "heir 0 0 23 4;", "place 0 0", 5);
        asks(four + "heir 0 0 23 3;", "place 0 1", 297);
        asks(four + "heir 0 0 23 3;", "place 0 0", 4);
    }

    /** "The least HOOK by which an HEIR has v (1 to 400) or more by the DAY. BAD; NONE: by none." */
    private static void p26Hook() {
        EDGES.behind(Edges.BUSY);
        EDGES.bounds("hook . 1", 0, 1);
        EDGES.bounds("hook 0 .", 1, 400);
        EDGES.still("hook 2 401", BAD);
        EDGES.still("hook 0 1", 1);
        EDGES.still("hook 0 11", 1);
        EDGES.still("hook 0 12", NONE);
        EDGES.still("hook 1 40", 1);
        EDGES.still("hook 1 41", NONE);
        EDGES.still("hook 1 400", NONE);
        EDGES.behind("tell " + Edges.CROWD);
        EDGES.bounds("hook . 1", 0, 3);
    }

    private static void p26HookOfEachLength() {
        for (int x = 0; x <= 9; x++) {
            asks("tell bottle " + x + " 1 3 7;heir 0 0 23 5;", "hook 0 7", x);
            asks("tell bottle " + x + " 1 3 7;heir 9 0 23 5;", "hook 0 1", 9 - x);
            asks("tell bottle " + x + " 1 3 7;heir 9 0 23 5;", "hook 0 8", NONE);
        }
        String four = "tell bottle 0 1 3 99;bottle 1 1 3 99;bottle 2 1 3 99;bottle 9 1 3 99;heir 0 0 23 9;";
        int[] most = {99, 198, 297, 396, 400};
        int[] want = {0, 1, 2, 9, NONE};
        for (int n = 0; n < 5; n++) {
            asks(four, "hook 0 " + most[n], want[n]);
            if (n < 4) asks(four, "hook 0 " + (most[n] + 1), want[n + 1]);
        }
        // A longer one helps no more where another is nearer, or of two alike the first.
        asks("tell bottle 4 1 3 7;heir 9 0 23 9;heir 5 0 23 1;", "hook 0 1", NONE);
        asks("tell bottle 4 1 3 7;heir 5 0 23 1;heir 3 0 23 9;", "hook 1 1", NONE);
        asks("tell bottle 4 1 3 7;heir 3 0 23 9;heir 5 0 23 1;", "hook 0 1", 1);
    }

    private static void p27Fire() {
        EDGES.behind(Edges.BUSY);
        EDGES.bounds("fire . 0", 0, 1);
        EDGES.bounds("fire 0 .", 0, 1);
        EDGES.still("fire 2 2", BAD);
        EDGES.behind("tell " + Edges.CROWD);
        EDGES.bounds("fire . 0", 0, 3);
        EDGES.bounds("fire 3 .", 0, 1);
    }

    /** "The WIND (1 to 4) of one HOUR": from 10 times 0 and 1 to 10 times 23 and 4. */
    private static void p27FireAtEachEnd() {
        String[] first = {"tub 4 2 0 9;heir 4 0 0 0;", "tub 4 1 0 9;heir 5 0 0 0;",
            "tub 4 1 0 9;heir 4 1 1 0;heir 4 0 0 0;", "tub 4 1 0 9;heir 3 0 0 0;"};
        for (int wind = 1; wind <= 4; wind++) {
            asks("tell phase 3;" + first[wind - 1], "fire 0 0", wind);
            asks("tell phase 3;" + first[wind - 1], "fire 0 1", 9);
        }
        asks("tell tub 4 2 23 9;heir 4 23 23 0;", "fire 0 0", 231);
        asks("tell tub 4 1 23 9;heir 5 23 23 0;", "fire 0 0", 232);
        asks("tell tub 4 1 23 9;heir 3 23 23 0;", "fire 0 0", 234);
        asks("tell tub 4 1 22 9;heir 4 23 23 0;heir 4 22 22 0;", "fire 0 0", 223);
        asks("tell tub 4 1 23 9;heir 3 23 23 0;", "fire 0 1", 9);
        // By none: two would be needed, or it does not move the TUB.
        asks("tell tub 4 4 3 9;heir 4 0 4 0;", "fire 0 0", NONE);
        asks("tell tub 4 4 3 9;heir 4 0 4 0;", "fire 0 1", NONE);
        asks("tell tub 4 3 3 9;heir 4 0 4 0;", "fire 0 0", 31);
        asks("tell bottle 4 3 3 9;heir 4 0 4 0;", "fire 0 0", NONE);
        asks("tell tub 4 3 3 9;heir 2 0 23 0;", "fire 0 0", NONE);
        asks("tell tub 4 3 3 9;heir 3 0 23 0;", "fire 0 0", 34);
        // WIND 0 is none that is told, though he would have more by it.
        asks("tell piano 2 1 3 9;current 2 3;heir 2 0 23 0;wind 3 4;", "fire 0 0", 31);
        asks("tell coop 1 3 3 9;current 2 3;heir 2 0 23 0;wind 3 4;", "fire 0 0", NONE);
    }

    /** "of several the least (what 0), how much (1)". */
    private static void p27FireOfSeveral() {
        String text = "tell tub 4 1 3 9;heir 9 0 23 9;heir 4 3 3 0;";
        asks(text, "fire 0 0", 32);
        asks(text + "wind 3 2;", "fire 0 0", NONE);
        // By the later more: it is not the first that is asked for.
        asks("tell tub 4 2 3 1;tub 8 1 9 9;heir 4 0 3 0;", "fire 0 0", 31);
        asks("tell tub 4 1 3 1;tub 4 1 9 9;tub 4 1 10 9;heir 5 3 10 0;", "fire 0 0", 92);
        asks("tell tub 4 1 3 1;tub 4 1 9 9;tub 4 1 10 9;heir 5 3 10 0;", "fire 0 1", 9);
        String four = "tell tub 4 1 9 99;tub 4 1 9 99;tub 4 1 9 99;tub 4 1 9 99;heir 5 9 9 0;";
        asks(four, "fire 0 0", 92);
        asks(four, "fire 0 1", 396);
    }

    /** "more than as it is": as much is not more; an HOUR that has a WIND may be told another. */
    private static void p27FireMoreThanAsItIs() {
        asks("tell tub 4 1 3 9;heir 4 0 23 0;", "fire 0 0", NONE);
        asks("tell tub 4 1 3 9;tub 7 1 9 9;heir 4 0 23 0;", "fire 0 0", NONE);
        asks("tell tub 4 1 3 9;tub 4 1 9 8;heir 4 0 23 1;", "fire 0 0", NONE);
        // A WIND of HOUR 9 gives the one of 10 and takes the one of 9.
        asks("tell tub 4 1 9 9;tub 5 1 9 10;heir 4 0 23 0;", "fire 0 0", 94);
        asks("tell tub 4 1 9 9;tub 5 1 9 10;heir 4 0 23 0;", "fire 0 1", 10);
        asks("tell tub 4 1 9 9;tub 5 1 9 9;heir 4 0 23 0;", "fire 0 0", NONE);
        asks("tell tub 4 2 3 9;heir 4 0 3 0;wind 3 1;", "fire 0 0", NONE);
        asks("tell tub 4 2 3 9;heir 4 0 3 0;wind 3 2;", "fire 0 0", 31);
        asks("tell tub 4 2 3 9;heir 4 0 3 0;wind 3 3;", "fire 0 1", 9);
    }

    /** "The PHASE by which most ESTATES are HOOKED, of several the first (what 0), how much (1). BAD." */
    private static void p28Moon() {
        EDGES.behind(Edges.BUSY);
        EDGES.bounds("moon .", 0, 1);
        EDGES.still("moon 1", 51);
        EDGES.behind();
        EDGES.bounds("moon .", 0, 1);
    }

    /** From PHASE 0 to 5: two TUBS come ashore in the HOURS of their heirs by one PHASE alone. */
    private static void p28MoonOfEachPhase() {
        for (int phase = 0; phase <= 5; phase++) {
            // Flood in HOUR h: h and PHASE, together, modulo 6 are 3 or more.
            int first = 9 - phase;
            int second = 11 - phase;
            String text = "tell bottle 1 1 " + first + " 20;bottle 8 1 " + second + " 30;heir 1 " + first + " " + first
                + " 0;heir 8 " + second + " " + second + " 0;";
            asks(text, "moon 0", phase);
            asks(text, "moon 1", 50);
            asks(text + "phase " + (phase + 1) % 6 + ";", "moon 0", phase);
        }
        asks("tell bottle 1 3 3 20;heir 1 0 23 9;phase 3;", "moon 1", 20);
        asks("tell bottle 1 9 0 20;heir 1 0 23 9;phase 4;", "moon 0", 0);
        asks("tell bottle 1 9 0 20;heir 1 0 23 9;phase 4;", "moon 1", 0);
        asks("tell bottle 1 1 0 99;bottle 1 1 0 99;bottle 1 1 0 99;bottle 1 1 0 99;heir 1 0 0 9;", "moon 0", 3);
        asks("tell bottle 1 1 0 99;bottle 1 1 0 99;bottle 1 1 0 99;bottle 1 1 0 99;heir 1 0 0 9;", "moon 1", 396);
    }

    /** "PLACES (a, b) of two HEIRS .. BAD (also alike)". */
    private static void p29Rest() {
        EDGES.behind(Edges.BUSY);
        EDGES.bounds("rest . 0 0", 1, 1);
        EDGES.bounds("rest . 1 0", 0, 0);
        EDGES.bounds("rest 0 . 1", 1, 1);
        EDGES.bounds("rest 0 1 .", 0, 1);
        EDGES.still("rest 0 0 0", BAD);
        EDGES.still("rest 1 1 1", BAD);
        EDGES.still("rest 2 2 2", BAD);
        EDGES.behind("tell " + Edges.CROWD);
        EDGES.bounds("rest . 0 0", 1, 3);
        EDGES.bounds("rest 3 . 0", 0, 2);
        for (int i = 0; i <= 3; i++) EDGES.still("rest " + i + " " + i + " 0", BAD);
        EDGES.behind("tell heir 4 0 23 9;");
        EDGES.still("rest 0 0 0", BAD);
    }

    /** "how many pairs (what 0), the least (1: 10 times a and b; NONE)": from none to 100, from 0 to 99. */
    private static void p29RestFromNoneToAll() {
        String nothing = "tell heir 4 0 23 9;heir 5 0 23 9;";
        asks(nothing, "rest 0 1 0", 100);
        asks(nothing, "rest 0 1 1", 0);
        String none = "tell bottle 7 1 3 8;bottle 8 1 3 3;heir 0 4 9 1;heir 0 4 9 0;";
        asks(none, "rest 0 1 0", 0);
        asks(none, "rest 0 1 1", NONE);
        for (int x = 0; x <= 9; x++) {
            // Each has a TUB of his own HOUR, and both TUBS are at one PLACE.
            String alike = "tell bottle " + x + " 1 3 5;bottle " + x + " 1 5 5;heir 4 3 3 0;heir 5 5 5 0;";
            asks(alike, "rest 0 1 0", 1);
            asks(alike, "rest 0 1 1", 11 * x);
            String apart = "tell bottle " + x + " 1 3 5;bottle " + (9 - x) + " 1 5 5;heir 4 3 3 0;heir 5 5 5 0;";
            asks(apart, "rest 0 1 1", 10 * x + 9 - x);
            asks(apart, "rest 1 0 1", 10 * (9 - x) + x);
        }
        // At either of two PLACES he has as much: neither is more than the other.
        String either = "tell bottle 2 1 3 5;bottle 8 1 3 5;heir 4 3 3 0;heir 0 0 2 9;";
        asks(either, "rest 0 1 0", 20);
        asks(either, "rest 0 1 1", 20);
        asks(either, "rest 1 0 1", 2);
    }

    private static void p30Luck() {
        EDGES.behind(Edges.BUSY);
        EDGES.bounds("luck . 0 0 0", 0, 10);
        EDGES.bounds("luck 5 . 0 0", 0, 1);
        EDGES.bounds("luck 5 0 . 0", 0, 1);
        EDGES.bounds("luck 5 0 0 .", 0, 1);
        EDGES.still("luck 11 2 2 2", BAD);
        EDGES.behind("tell " + Edges.CROWD);
        EDGES.bounds("luck 5 . 0 0", 0, 3);
        EDGES.bounds("luck 5 0 . 0", 0, 3);
    }

    /** "by v out of ten (0 to 10)"; "in lowest terms", "above 0 (0 is 0 by 1)". */
    private static void p30LuckOfOdds() {
        int[] tenths = {1, 10, 5, 10, 5, 2, 5, 10, 5, 10, 1};
        for (int v = 0; v <= 10; v++) {
            // By a wind that has to drop, by one that has to stay, by none.
            EDGES.behind("tell tub 4 1 3 9;heir 4 3 3 0;wind 3 2;");
            EDGES.fraction("luck " + v + " 0 0 .", v * tenths[v] / 10, tenths[v]);
            EDGES.behind("tell tub 4 2 3 9;heir 4 3 3 0;wind 3 1;");
            EDGES.fraction("luck " + v + " 0 0 .", (10 - v) * tenths[v] / 10, tenths[v]);
            EDGES.behind("tell tub 4 1 3 9;heir 4 3 3 0;wind 3 0;");
            EDGES.fraction("luck " + v + " 0 0 .", 1, 1);
            EDGES.behind("tell tub 4 2 3 9;heir 4 3 3 0;");
            EDGES.fraction("luck " + v + " 0 0 .", 0, 1);
        }
        // Each "by itself": of two, both, one alone, none.
        EDGES.behind("tell tub 4 3 3 9;heir 4 4 4 0;wind 3 1;wind 4 1;");
        EDGES.fraction("luck 3 0 0 .", 91, 100);
        EDGES.behind("tell tub 4 4 3 9;heir 4 4 4 0;wind 3 1;wind 4 1;");
        EDGES.fraction("luck 3 0 0 .", 49, 100);
        EDGES.fraction("luck 0 0 0 .", 1, 1);
        EDGES.fraction("luck 10 0 0 .", 0, 1);
    }

    /** A text with a bottle that is hooked by no wind, as winds do nothing to it, and so many HOURS with a WIND. */
    private static String windy(String text, int hours) {
        StringBuilder calls = new StringBuilder("tell " + text);
        for (int hour = 0; hour < hours; hour++) calls.append(", blow ").append(23 - hour).append(" 1");
        return calls.toString();
    }

    /** "STATE: more than 8 HOURS have a WIND"; what is BAD is BAD there, too. */
    private static void p30EightWindsAndNine() {
        String text = "bottle 4 1 3 9;heir 4 3 3 0;";
        for (int hours = 0; hours <= 24; hours++) {
            EDGES.behind(windy(text, hours).split(", "));
            if (hours < 7) continue;
            EDGES.still("luck 1 0 0 0", hours <= 8 ? 1 : STATE);
            EDGES.still("luck 1 0 0 1", hours <= 8 ? 1 : STATE);
            EDGES.still("mean 1 0 0", hours <= 8 ? 9 : STATE);
            EDGES.still("mean 1 0 1", hours <= 8 ? 1 : STATE);
        }
        EDGES.behind(windy(text, 9).split(", "));
        EDGES.bounds("luck . 0 0 0", 0, 10);
        EDGES.bounds("luck 1 . 0 0", 0, 0);
        EDGES.bounds("luck 1 0 . 0", 0, 0);
        EDGES.bounds("luck 1 0 0 .", 0, 1);
        EDGES.bounds("mean . 0 0", 0, 10);
        EDGES.bounds("mean 1 . 0", 0, 0);
        EDGES.bounds("mean 1 0 .", 0, 1);
        // STATE with odds by which nothing drops, or all does.
        EDGES.still("luck 0 0 0 0", STATE);
        EDGES.still("luck 10 0 0 0", STATE);
        EDGES.still("mean 0 0 0", STATE);
        EDGES.still("mean 10 0 0", STATE);
        // Eight winds that all have to stay: the longest fraction there is.
        EDGES.behind(("tell tub 0 2 7 99;heir 7 0 23 0;wind 10 2;wind 11 2;wind 12 2;wind 13 2;wind 14 2;wind 15 2;"
            + "wind 16 2;wind 17 1;").split(", "));
        EDGES.fraction("luck 1 0 0 .", 43046721, 100000000);
        EDGES.fraction("luck 9 0 0 .", 1, 100000000);
        EDGES.fraction("luck 0 0 0 .", 1, 1);
        EDGES.fraction("luck 10 0 0 .", 0, 1);
        EDGES.fraction("mean 1 0 .", 99L * 43046721, 100000000);
        EDGES.fraction("mean 9 0 .", 99, 100000000);
    }

    private static void p31Mean() {
        EDGES.behind(Edges.BUSY);
        EDGES.bounds("mean . 0 0", 0, 10);
        EDGES.bounds("mean 5 . 0", 0, 1);
        EDGES.bounds("mean 5 0 .", 0, 1);
        EDGES.still("mean 11 2 2", BAD);
        EDGES.behind("tell " + Edges.CROWD);
        EDGES.bounds("mean 5 . 0", 0, 3);
    }

    /** From 0 by 1 to 396 by 1; by odds of 0 and of 10 it is what he has with all winds, and with none. */
    private static void p31MeanFromNothingToAll() {
        String four = "tub 4 1 3 99;tub 4 1 3 99;tub 4 1 3 99;tub 4 1 3 99;";
        EDGES.behind("tell " + four + "heir 4 3 3 0;wind 3 2;heir 5 3 3 0;");
        for (int v = 0; v <= 10; v++) {
            // 396 by 10 is 198 by 5.
            int shared = v % 5 == 0 ? 5 : 1;
            EDGES.fraction("mean " + v + " 0 .", 198 * v / shared, 5 / shared);
            EDGES.fraction("mean " + v + " 1 .", 198 * (10 - v) / shared, 5 / shared);
        }
        // The numerator may share with ten what the odds do not.
        EDGES.behind("tell tub 4 1 3 50;heir 4 3 3 0;wind 3 2;");
        EDGES.fraction("mean 3 0 .", 15, 1);
        EDGES.fraction("mean 7 0 .", 35, 1);
        EDGES.fraction("mean 0 0 .", 0, 1);
        EDGES.fraction("mean 10 0 .", 50, 1);
    }
}
