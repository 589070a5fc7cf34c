/** Edges of promises 18 to 21 and of what the Terms say of THE SEA and A DAY. */
public final class DayEdgeTest {
    private static final Edges EDGES = new Edges("DayEdgeTest");
    private static final int BAD = Edges.BAD, NONE = Edges.NONE;
    private static final int ADRIFT = 0, HOOKED = 1, ASHORE = 2, LOST = 3;

    public static void main(String[] args) {
        theHourInWhichItIsPutIn();
        theShore();
        theShoreHoldsX();
        theEdgesOfTheSea();
        allAtOnce();
        theTide();
        whatIsOverDriftsNoMore();
        theFirstAndTheLastRow();
        heirsByHours();
        heirsByHooks();
        heirsWhoAreNearest();
        heirsOfAnotherHour();
        p18Fate();
        p18FateOfTheFirstAndLastHour();
        p19Where();
        p19FarthestEasts();
        p19WayBehindEachHour();
        p20Has();
        p20HasAll();
        p21All();
        EDGES.finish();
    }

    private static void where(String text, int n, int east, int y, int way) {
        EDGES.behind("tell " + text);
        EDGES.answers("where 0 " + n + " 0", east);
        EDGES.answers("where 0 " + n + " 1", y);
        EDGES.answers("where 0 " + n + " 2", way);
    }

    private static void fate(String text, int way, int who, int over, int hooked) {
        EDGES.behind("tell " + text);
        EDGES.answers("fate 0 0", way);
        EDGES.answers("fate 0 1", who);
        EDGES.answers("fate 0 2", over);
        EDGES.answers("fate 0 3", hooked);
    }

    /** "each TUB that was put in (in this HOUR or before)". */
    private static void theHourInWhichItIsPutIn() {
        for (int hour = 0; hour <= 23; hour++) {
            String text = "bottle 4 5 " + hour + " 1;current 5 3;";
            where(text, 0, 14, 5, ADRIFT);
            where(text, hour, 14, 5, ADRIFT);
            where(text, hour + 1, 15, hour % 6 < 3 ? 6 : 4, ADRIFT);
        }
    }

    /** "Is Y 0 or less then, it is ASHORE (at Y 0 ..)". */
    private static void theShore() {
        where("bottle 4 2 3 1;", 4, 14, 1, ADRIFT);
        where("bottle 4 1 3 1;", 4, 14, 0, ASHORE);
        where("tub 4 1 3 1;wind 3 1;", 4, 14, 0, ASHORE);
        where("coop 4 1 3 1;wind 3 1;", 4, 14, 0, ASHORE);
        where("coop 4 4 3 1;wind 3 1;", 4, 14, 0, ASHORE);
        where("coop 4 5 3 1;wind 3 1;", 4, 14, 1, ADRIFT);
        where("tub 4 1 0 1;wind 0 1;", 1, 14, 1, ADRIFT);
        where("piano 4 1 0 1;wind 0 1;", 1, 14, 0, ASHORE);
        where("coop 4 1 0 1;wind 0 1;", 1, 14, 0, ASHORE);
        where("tub 4 1 3 1;wind 3 3;", 4, 14, 1, ADRIFT);
    }

    /** "X 0 at least, 9 at most"; what is ASHORE is not LOST. */
    private static void theShoreHoldsX() {
        where("bottle 8 1 3 1;current 1 3;", 4, 19, 0, ASHORE);
        where("bottle 9 1 3 1;current 1 3;", 4, 19, 0, ASHORE);
        where("bottle 9 1 3 1;current 1 4;", 4, 19, 0, ASHORE);
        where("coop 9 1 3 1;current 1 4;wind 3 2;", 4, 19, 0, ASHORE);
        where("bottle 1 1 3 1;current 1 1;", 4, 10, 0, ASHORE);
        where("bottle 0 1 3 1;current 1 1;", 4, 10, 0, ASHORE);
        where("bottle 0 1 3 1;current 1 0;", 4, 10, 0, ASHORE);
        where("coop 0 1 3 1;current 1 0;wind 3 4;", 4, 10, 0, ASHORE);
        fate("coop 9 1 3 1;current 1 4;wind 3 2;heir 9 3 3 0;", HOOKED, 0, 3, 3);
        fate("coop 0 1 3 1;current 1 0;wind 3 4;heir 0 3 3 0;", HOOKED, 0, 3, 3);
    }

    /** "else, is Y above 9, or X below 0 or above 9, it is LOST (X, Y as they are then)". */
    private static void theEdgesOfTheSea() {
        where("bottle 4 8 0 1;", 1, 14, 9, ADRIFT);
        where("bottle 4 9 0 1;", 1, 14, 10, LOST);
        where("coop 4 9 0 1;wind 0 3;", 1, 14, 13, LOST);
        where("tub 4 9 3 1;wind 3 3;", 4, 14, 9, ADRIFT);
        where("piano 4 9 3 1;wind 3 3;", 4, 14, 10, LOST);
        where("bottle 8 5 0 1;current 5 3;", 1, 19, 6, ADRIFT);
        where("bottle 9 5 0 1;current 5 3;", 1, 20, 6, LOST);
        where("bottle 1 5 0 1;current 5 1;", 1, 10, 6, ADRIFT);
        where("bottle 0 5 0 1;current 5 1;", 1, 9, 6, LOST);
        where("coop 6 5 0 1;wind 0 2;", 1, 19, 6, ADRIFT);
        where("coop 7 5 0 1;wind 0 2;", 1, 20, 6, LOST);
        where("coop 3 5 0 1;wind 0 4;", 1, 10, 6, ADRIFT);
        where("coop 2 5 0 1;wind 0 4;", 1, 9, 6, LOST);
        where("bottle 9 9 0 1;current 9 4;", 1, 21, 10, LOST);
        where("bottle 0 9 0 1;current 9 0;", 1, 8, 10, LOST);
        where("bottle 9 2 3 1;current 2 3;", 4, 20, 1, LOST);
        // Nobody hooks what is LOST, wherever it is.
        fate("bottle 9 2 3 1;current 2 3;heir 9 0 23 9;", LOST, NONE, 3, NONE);
    }

    /** "all at once": what leaves the sea by one and comes back by another was never LOST, never ASHORE. */
    private static void allAtOnce() {
        where("tub 9 5 0 1;current 5 3;wind 0 4;", 1, 19, 6, ADRIFT);
        where("tub 0 5 0 1;current 5 1;wind 0 2;", 1, 10, 6, ADRIFT);
        where("tub 4 9 0 1;wind 0 1;", 1, 14, 9, ADRIFT);
        where("tub 4 1 3 1;wind 3 3;", 4, 14, 1, ADRIFT);
        // The ROW is the one in which the HOUR finds it, not that into which tide and wind carry it.
        where("tub 4 5 0 1;wind 0 3;current 5 4;current 6 0;current 7 0;", 1, 16, 7, ADRIFT);
    }

    /** "(HOUR and PHASE, together) by 3 (down): even: ebb, odd: flood". */
    private static void theTide() {
        for (int phase = 0; phase <= 5; phase++) {
            for (int hour = 0; hour <= 23; hour++) {
                int y = (hour + phase) % 6 <= 2 ? 6 : 4;
                where("bottle 4 5 " + hour + " 1;phase " + phase + ";", hour + 1, 14, y, ADRIFT);
            }
        }
    }

    /** "is not ASHORE, not LOST": neither moves any more, by current, tide or wind. */
    private static void whatIsOverDriftsNoMore() {
        String winds = "wind 4 3;wind 5 2;wind 6 3;";
        for (int n = 4; n <= 24; n++) {
            where("coop 4 1 3 1;current 0 4;current 1 3;" + winds, n, 15, 0, ASHORE);
            where("coop 9 5 3 1;current 5 3;" + winds, n, 20, 4, LOST);
        }
        where("tub 4 9 0 1;", 1, 14, 10, LOST);
        where("tub 4 9 0 1;wind 3 1;wind 4 1;", 24, 14, 10, LOST);
    }

    /** ROWS 0 to 9: in that of Y 9 a current goes as in the others; in that of Y 0 nothing drifts. */
    private static void theFirstAndTheLastRow() {
        for (int v = 0; v <= 4; v++) {
            where("bottle 4 9 3 1;current 9 " + v + ";", 4, 12 + v, 8, ADRIFT);
            where("bottle 4 1 0 1;current 1 " + v + ";", 1, 12 + v, 2, ADRIFT);
            where("bottle 4 1 3 1;current 0 " + v + ";", 24, 14, 0, ASHORE);
        }
    }

    /** "FROM an HOUR UNTIL an HOUR (that one, too)". */
    private static void heirsByHours() {
        String ashoreAt5 = "bottle 4 3 3 1;";
        fate(ashoreAt5 + "heir 4 5 5 0;", HOOKED, 0, 5, 5);
        fate(ashoreAt5 + "heir 4 4 4 0;", ASHORE, NONE, 5, NONE);
        fate(ashoreAt5 + "heir 4 0 4 0;", ASHORE, NONE, 5, NONE);
        fate(ashoreAt5 + "heir 4 0 5 0;", HOOKED, 0, 5, 5);
        fate(ashoreAt5 + "heir 4 6 6 0;", HOOKED, 0, 5, 6);
        fate(ashoreAt5 + "heir 4 6 23 0;", HOOKED, 0, 5, 6);
        fate(ashoreAt5 + "heir 4 23 23 0;", HOOKED, 0, 5, 23);
        fate(ashoreAt5 + "heir 4 0 0 0;", ASHORE, NONE, 5, NONE);
        fate(ashoreAt5, ASHORE, NONE, 5, NONE);
    }

    /** "of whose PLACE it is no farther than their HOOK", on both sides, from none to the whole shore. */
    private static void heirsByHooks() {
        for (int x = 0; x <= 9; x++) {
            for (int place = 0; place <= 9; place++) {
                int far = Math.abs(x - place);
                String text = "bottle " + x + " 1 3 1;heir " + place + " 0 23 ";
                fate(text + far + ";", HOOKED, 0, 3, 3);
                if (far > 0) fate(text + (far - 1) + ";", ASHORE, NONE, 3, NONE);
            }
        }
    }

    /** "the nearest HOOKS it (of several the first)". */
    private static void heirsWhoAreNearest() {
        String ashoreAt4 = "bottle 4 1 3 1;";
        fate(ashoreAt4 + "heir 9 0 23 9;heir 0 0 23 9;heir 6 0 23 9;heir 3 0 23 9;", HOOKED, 3, 3, 3);
        fate(ashoreAt4 + "heir 3 0 23 9;heir 6 0 23 9;heir 0 0 23 9;heir 9 0 23 9;", HOOKED, 0, 3, 3);
        fate(ashoreAt4 + "heir 6 0 23 9;heir 3 0 23 9;heir 5 0 23 9;heir 4 0 23 9;", HOOKED, 3, 3, 3);
        fate(ashoreAt4 + "heir 6 0 23 9;heir 3 0 23 9;heir 5 0 23 9;", HOOKED, 1, 3, 3);
        fate(ashoreAt4 + "heir 6 0 23 9;heir 5 0 23 9;heir 3 0 23 9;", HOOKED, 1, 3, 3);
        fate(ashoreAt4 + "heir 4 0 23 9;heir 4 0 23 0;heir 4 0 23 9;", HOOKED, 0, 3, 3);
        // He who is nearest may not reach it, or not be there.
        fate(ashoreAt4 + "heir 8 0 23 4;heir 7 0 23 2;", HOOKED, 0, 3, 3);
        fate(ashoreAt4 + "heir 8 0 23 4;heir 4 4 23 2;", HOOKED, 0, 3, 3);
        fate(ashoreAt4 + "heir 8 0 23 4;heir 4 0 2 2;", HOOKED, 0, 3, 3);
    }

    /** HOUR by HOUR: who is there in an earlier HOUR has it, be he farther or told behind. */
    private static void heirsOfAnotherHour() {
        String ashoreAt4 = "bottle 4 1 3 1;";
        fate(ashoreAt4 + "heir 4 5 23 9;heir 9 4 4 9;", HOOKED, 1, 3, 4);
        fate(ashoreAt4 + "heir 9 4 4 9;heir 4 5 23 9;", HOOKED, 0, 3, 4);
        fate(ashoreAt4 + "heir 9 5 23 9;heir 4 5 23 9;", HOOKED, 1, 3, 5);
        fate(ashoreAt4 + "heir 4 0 2 9;heir 4 23 23 9;heir 4 22 22 9;heir 4 21 21 0;", HOOKED, 3, 3, 21);
        // It is hooked once, and is his for the rest of the day.
        fate(ashoreAt4 + "heir 9 3 3 9;heir 4 4 23 9;", HOOKED, 0, 3, 3);
    }

    private static void p18Fate() {
        EDGES.behind();
        EDGES.still("fate 0 0", BAD);
        EDGES.behind(Edges.BUSY);
        EDGES.bounds("fate . 0", 0, 1);
        EDGES.bounds("fate 0 .", 0, 3);
        for (int what = 0; what <= 3; what++) {
            EDGES.still("fate 0 " + what, new int[] {HOOKED, 0, 5, 5}[what]);
            EDGES.still("fate 1 " + what, new int[] {HOOKED, 1, 5, 5}[what]);
        }
        EDGES.behind("tell " + Edges.CROWD);
        EDGES.bounds("fate . 0", 0, 3);
        fate("bottle 4 5 3 1;", ADRIFT, NONE, NONE, NONE);
        fate("bottle 4 9 0 1;heir 4 0 23 9;", LOST, NONE, 0, NONE);
    }

    /** HOURS 0 and 23 are HOURS like the others, and no NONE. */
    private static void p18FateOfTheFirstAndLastHour() {
        fate("piano 4 1 0 1;wind 0 1;", ASHORE, NONE, 0, NONE);
        fate("piano 4 1 0 1;wind 0 1;heir 4 0 0 0;", HOOKED, 0, 0, 0);
        fate("piano 4 1 0 1;wind 0 1;heir 4 1 1 0;", HOOKED, 0, 0, 1);
        fate("bottle 4 9 0 1;", LOST, NONE, 0, NONE);
        fate("bottle 4 1 23 1;", ASHORE, NONE, 23, NONE);
        fate("bottle 4 1 23 1;heir 4 23 23 0;", HOOKED, 0, 23, 23);
        fate("bottle 4 1 23 1;heir 4 0 22 0;", ASHORE, NONE, 23, NONE);
        fate("bottle 9 4 23 1;current 4 3;", LOST, NONE, 23, NONE);
        fate("bottle 4 2 23 1;heir 4 0 23 0;", ADRIFT, NONE, NONE, NONE);
    }

    /** "behind n HOURS (0 to 24): 0 EAST, 1 Y, 2 WAY. BAD". */
    private static void p19Where() {
        EDGES.behind();
        EDGES.still("where 0 0 0", BAD);
        EDGES.behind(Edges.BUSY);
        EDGES.bounds("where . 0 0", 0, 1);
        EDGES.bounds("where 0 . 0", 0, 24);
        EDGES.bounds("where 0 0 .", 0, 2);
        EDGES.still("where 2 25 3", BAD);
        EDGES.still("where 0 0 0", 13);
        EDGES.still("where 0 24 2", HOOKED);
        EDGES.behind("tell " + Edges.CROWD);
        EDGES.bounds("where . 24 0", 0, 3);
    }

    /** "EAST: 10 more than its X (so that it is never below 0)". */
    private static void p19FarthestEasts() {
        where("coop 0 5 0 1;current 5 0;wind 0 4;", 24, 5, 6, LOST);
        where("coop 9 5 0 1;current 5 4;wind 0 2;", 24, 24, 6, LOST);
        where("tub 0 5 0 1;", 0, 10, 5, ADRIFT);
        where("tub 9 5 0 1;", 0, 19, 5, ADRIFT);
    }

    /** "Behind n HOURS: when HOURS 0 to n - 1 are over". */
    private static void p19WayBehindEachHour() {
        for (int n = 0; n <= 24; n++) {
            String text = "bottle 4 3 3 1;heir 4 8 9 0;";
            where(text, n, 14, n <= 3 ? 3 : n <= 6 ? 6 - n : 0, n <= 5 ? ADRIFT : n <= 8 ? ASHORE : HOOKED);
            where("bottle 4 7 6 1;", n, 14, n <= 6 ? 7 : n <= 9 ? n + 1 : 10, n <= 8 ? ADRIFT : LOST);
        }
    }

    private static void p20Has() {
        EDGES.behind();
        EDGES.still("has 0 0", BAD);
        EDGES.behind(Edges.BUSY);
        EDGES.bounds("has . 0", 0, 1);
        EDGES.bounds("has 0 .", 0, 1);
        EDGES.still("has 2 2", BAD);
        EDGES.still("has 0 0", 11);
        EDGES.still("has 0 1", 1);
        EDGES.still("has 1 0", 40);
        EDGES.still("has 1 1", 2);
        EDGES.behind("tell " + Edges.CROWD);
        EDGES.bounds("has . 1", 0, 3);
        EDGES.behind("tell heir 4 0 23 9;");
        EDGES.still("has 0 0", 0);
        EDGES.still("has 0 1", 0);
    }

    /** Nothing, each by itself, all: from 0 to 4 times 99, from no bits to 15. */
    private static void p20HasAll() {
        String four = "bottle 1 1 3 99;bottle 4 1 3 99;bottle 7 1 3 99;bottle 9 1 3 99;";
        int[] hookers = {0, 1, 2, 4, 8};
        for (int hook = 0; hook <= 9; hook++) {
            int tubs = hook < 2 ? 1 : hook < 5 ? 2 : hook < 8 ? 3 : 4;
            EDGES.script("tell " + four + "heir 9 0 23 " + hook + "; = 5", "has 0 0 = " + 99 * tubs,
                "has 0 1 = " + (16 - (16 >> tubs)));
        }
        EDGES.script("tell " + four + "heir 1 0 23 0;heir 4 0 23 0;heir 7 0 23 0;heir 9 0 23 0; = 8",
            "has 0 1 = " + hookers[1], "has 1 1 = " + hookers[2], "has 2 1 = " + hookers[3], "has 3 1 = " + hookers[4],
            "has 3 0 = 99", "stand 0 0 0 = 1", "has 0 1 = " + hookers[0], "has 0 0 = 0", "all 4 = 297");
    }

    /** "TUBS of a WAY (what 0 to 3; bits), ESTATES of those that are HOOKED (4). BAD." */
    private static void p21All() {
        EDGES.behind();
        EDGES.bounds("all .", 0, 4);
        for (int what = 0; what <= 4; what++) EDGES.still("all " + what, 0);
        EDGES.behind(Edges.BUSY);
        EDGES.bounds("all .", 0, 4);
        int[] want = {0, 3, 0, 0, 51};
        for (int what = 0; what <= 4; what++) EDGES.still("all " + what, want[what]);
        String[] ways = {"4 5 3 99;", "4 1 3 99;", "9 1 3 99;", "4 9 0 99;"};
        String heir = "heir 4 0 23 0;";
        for (int way = 0; way <= 3; way++) {
            String tub = "tub " + ways[way];
            String four = "tell " + tub + tub + tub + tub + heir + " = 5";
            for (int what = 0; what <= 3; what++) EDGES.script(four, "all " + what + " = " + (what == way ? 15 : 0));
            EDGES.script(four, "all 4 = " + (way == HOOKED ? 396 : 0));
            String last = "tell tub " + ways[(way + 1) % 4] + "tub " + ways[(way + 1) % 4] + tub + heir + " = 4";
            EDGES.script(last, "all " + way + " = 4", "all " + (way + 1) % 4 + " = 3", "sink 2 = 3", "all " + way + " = 0");
        }
    }
}
