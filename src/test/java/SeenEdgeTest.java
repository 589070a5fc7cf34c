/** Edges of promises 32 to 37: which it was, by a seed. */
public final class SeenEdgeTest {
    private static final Edges EDGES = new Edges("SeenEdgeTest");
    private static final int BAD = Edges.BAD, STATE = Edges.STATE, FULL = Edges.FULL, NONE = Edges.NONE;

    public static void main(String[] args) {
        p32See();
        p32SeeSixAndSeven();
        p33Forget();
        p33ForgetTheLast();
        p34Kinds();
        p34KindsFromNoneToAll();
        p34KindsBehindTheFirstAndLastHour();
        p34KindsOfATubThatIsGone();
        p35Sets();
        p35SetsFromNoneToAll();
        p36Look();
        p36LookBehindTheFirstAndLastHour();
        p36LookFewerThanNow();
        p37Drift();
        p37DriftOfBits();
        p37DriftOfSeeds();
        EDGES.finish();
    }

    /** "behind n HOURS (0 to 24) a TUB has an EAST (0 to 30): how many are. BAD". */
    private static void p32See() {
        EDGES.behind();
        EDGES.still("see 0 0 10", BAD);
        EDGES.behind(Edges.BUSY);
        EDGES.bounds("see . 0 10", 0, 1);
        EDGES.bounds("see 0 . 10", 0, 24);
        EDGES.bounds("see 0 0 .", 0, 30);
        EDGES.still("see 2 25 31", BAD);
        EDGES.changes("see 0 0 0", 3, "count 0 = 3");
        EDGES.changes("see 1 24 30", 3, "count 0 = 3");
        EDGES.behind("tell " + Edges.CROWD);
        EDGES.bounds("see . 0 10", 0, 3);
        EDGES.changes("see 3 0 14", 1, "count 0 = 1");
    }

    /** "SEEN (6)"; "FULL"; what is BAD is BAD there, too. */
    private static void p32SeeSixAndSeven() {
        String[] five = Edges.and(Edges.BUSY, "see 0 0 13", "see 0 0 13", "see 1 0 15");
        EDGES.behind(five);
        EDGES.changes("see 1 0 15", 6, "count 0 = 6");
        EDGES.behind(Edges.and(five, "see 1 0 15"));
        EDGES.still("see 1 0 15", FULL);
        EDGES.still("see 0 24 30", FULL);
        EDGES.bounds("see . 0 10", 0, 1);
        EDGES.bounds("see 0 . 10", 0, 24);
        EDGES.bounds("see 0 0 .", 0, 30);
        EDGES.script("cast 4 4 4 = 1", "see 0 0 14 = 1", "see 0 0 14 = 2", "see 0 0 14 = 3", "see 0 0 14 = 4",
            "see 0 0 14 = 5", "see 0 0 14 = 6", "see 0 0 15 = -3", "count 0 = 6", "kinds 0 = 15", "forget 5 = 6",
            "see 0 0 15 = 6", "see 0 0 14 = -3", "kinds 0 = 0", "forget 0 = 6", "see 0 0 14 = 1");
    }

    /** "SEEN are the first n alone: how many there were. BAD (n above that, too)". */
    private static void p33Forget() {
        EDGES.behind();
        EDGES.bounds("forget .", 0, 0);
        EDGES.still("forget 0", 0);
        EDGES.behind(Edges.BUSY);
        EDGES.bounds("forget .", 0, 2);
        EDGES.still("forget 2", 2);
        EDGES.changes("forget 1", 2, "count 0 = 1");
        EDGES.changes("forget 0", 2, "count 0 = 0");
        EDGES.behind(Edges.and(Edges.BUSY, "see 0 0 13", "see 0 0 13", "see 0 0 13", "see 0 0 13"));
        EDGES.bounds("forget .", 0, 6);
        EDGES.still("forget 6", 6);
        EDGES.changes("forget 5", 6, "count 0 = 5");
    }

    /** The first n stay, each as it was; those behind them are gone. */
    private static void p33ForgetTheLast() {
        // By each one more is SEEN, and one kind fewer is left.
        EDGES.script("tell coop 2 5 0 1;tub 2 5 0 1;wind 0 2;tub 9 5 0 1; = 4", "see 0 0 12 = 1", "kinds 0 = 15",
            "see 2 0 19 = 2", "kinds 0 = 15", "see 0 1 15 = 3", "kinds 0 = 8", "see 0 1 14 = 4", "kinds 0 = 0",
            "forget 3 = 4", "kinds 0 = 8", "forget 2 = 3", "kinds 0 = 15", "forget 3 = -1", "see 0 1 13 = 3",
            "kinds 0 = 1", "forget 0 = 3", "kinds 0 = 15", "forget 1 = -1", "forget 0 = 0");
    }

    private static void p34Kinds() {
        EDGES.behind();
        EDGES.still("kinds 0", BAD);
        EDGES.behind(Edges.BUSY);
        EDGES.bounds("kinds .", 0, 1);
        EDGES.still("kinds 0", 15);
        EDGES.behind("tell " + Edges.CROWD);
        EDGES.bounds("kinds .", 0, 3);
        for (int t = 0; t <= 3; t++) EDGES.still("kinds " + t, 15);
    }

    private static void kinds(String text, String see, int bits) {
        EDGES.behind("tell " + text, see);
        EDGES.still("kinds 0", bits);
    }

    /** Bits from none to 15: by the EAST from 0 to 30. */
    private static void p34KindsFromNoneToAll() {
        String up = "tub 6 5 0 1;wind 0 2;";
        String down = "tub 2 5 0 1;wind 0 4;";
        for (int east = 0; east <= 30; east++) {
            kinds(up, "see 0 1 " + east, east == 16 ? 2 : east == 17 ? 1 : east == 18 ? 4 : east == 19 ? 8 : 0);
            kinds(down, "see 0 1 " + east, east == 12 ? 2 : east == 11 ? 1 : east == 10 ? 4 : east == 9 ? 8 : 0);
            kinds("tub 6 5 0 1;", "see 0 1 " + east, east == 16 ? 15 : 0);
        }
        kinds("tub 0 5 0 1;current 5 0;wind 0 4;", "see 0 24 5", 8);
        kinds("tub 9 5 0 1;current 5 4;wind 0 2;", "see 0 24 24", 8);
        kinds("bottle 6 5 0 1;tub 6 5 0 1;wind 0 2;", "see 1 1 17", 15);
        kinds("bottle 6 5 0 1;tub 6 5 0 1;wind 0 2;", "see 1 1 16", 0);
    }

    private static void p34KindsBehindTheFirstAndLastHour() {
        String text = "tub 6 5 0 1;wind 0 2;wind 23 2;";
        kinds(text, "see 0 0 16", 15);
        kinds(text, "see 0 0 17", 0);
        kinds(text, "see 0 23 18", 4);
        kinds(text, "see 0 24 18", 1);
        kinds("tub 6 5 23 1;wind 23 2;", "see 0 23 16", 15);
        kinds("tub 6 5 23 1;wind 23 2;", "see 0 24 16", 2);
    }

    /** "(of a TUB that is gone: it is not so)": of that TUB, of another, of all by a CURRENT. */
    private static void p34KindsOfATubThatIsGone() {
        EDGES.script("tell tub 2 5 0 1;tub 3 5 0 1;tub 4 5 0 1; = 3", "see 2 0 14 = 1", "kinds 0 = 15", "kinds 2 = 15",
            "sets 4 = 31", "sink 2 = 3", "kinds 0 = 0", "kinds 1 = 0", "kinds 2 = -1", "sets 4 = 0", "look 0 0 = -4",
            "forget 0 = 1", "kinds 0 = 15", "sets 4 = 31");
        EDGES.script("tell tub 2 5 0 1;tub 3 5 0 1; = 2", "see 0 0 12 = 1", "sink 1 = 2", "kinds 0 = 15", "see 0 24 12 = 2",
            "sink 0 = 1", "kinds 0 = -1", "sets 0 = 0", "count 0 = 2", "forget 0 = 2", "sets 0 = 31");
        // By a TUB that is gone and one that is so, it is not so; it is an IMAGE that may bring it back.
        EDGES.script("tell tub 2 5 0 1;tub 3 5 0 1; = 2", "keep 0 = 0", "see 0 0 12 = 1", "see 1 0 13 = 2", "sink 1 = 2",
            "kinds 0 = 0", "back 0 = 2", "kinds 0 = 15", "kinds 1 = 15", "count 0 = 2");
    }

    /** "CURRENTS (0 to 4; bits) of a ROW .. BAD." */
    private static void p35Sets() {
        EDGES.behind();
        EDGES.bounds("sets .", 0, 9);
        for (int row = 0; row <= 9; row++) EDGES.still("sets " + row, 31);
        EDGES.behind(Edges.BUSY);
        EDGES.bounds("sets .", 0, 9);
        EDGES.still("sets 3", 4);
        EDGES.still("sets 4", 4);
        EDGES.still("sets 0", 31);
    }

    private static void p35SetsFromNoneToAll() {
        for (int y = 1; y <= 9; y++) {
            for (int east = 0; east <= 30; east++) {
                // In HOUR 3 it is flood; from Y 1 it comes ashore at X 9 by three CURRENTS.
                EDGES.behind("tell bottle 9 " + y + " 3 1;", "see 0 4 " + east);
                int bits = east < 17 || east > 21 ? 0 : 1 << east - 17;
                if (y == 1) bits = east == 17 ? 1 : east == 18 ? 2 : east == 19 ? 28 : 0;
                EDGES.answers("sets " + y, bits);
                EDGES.answers("sets 0", east == 19 ? 31 : 0);
                EDGES.answers("sets " + (y == 9 ? 8 : 9), east == 19 ? 31 : 0);
            }
        }
    }

    private static void p36Look() {
        EDGES.behind();
        EDGES.still("look 0 0", BAD);
        EDGES.behind(Edges.BUSY);
        EDGES.bounds("look . 0", 0, 1);
        EDGES.bounds("look 0 .", 0, 1);
        EDGES.still("look 2 2", BAD);
        EDGES.still("look 0 0", NONE);
        EDGES.still("look 0 1", NONE);
        EDGES.behind("tell " + Edges.CROWD);
        EDGES.bounds("look . 0", 0, 3);
    }

    private static void look(String text, int behind, int left) {
        EDGES.behind("tell " + text);
        EDGES.still("look 0 0", behind);
        EDGES.still("look 0 1", left);
    }

    /** "Behind how many HOURS (0 to 24)": at none are they apart, behind 1 and behind 24 they may be. */
    private static void p36LookBehindTheFirstAndLastHour() {
        for (int hour = 0; hour <= 23; hour++) {
            look("bottle 6 5 0 1;wind " + hour + " 2;", hour + 1, 1);
            look("bottle 6 5 " + hour + " 1;wind " + hour + " 4;", hour + 1, 1);
            if (hour < 23) look("bottle 6 5 " + (hour + 1) + " 1;wind " + hour + " 2;", NONE, NONE);
        }
        look("bottle 6 5 0 1;", NONE, NONE);
        look("bottle 6 5 0 1;wind 4 1;", NONE, NONE);
    }

    /** "fewest are left at the worst, fewer than now, the first": from 3 to 1; none of 1 and of 0. */
    private static void p36LookFewerThanNow() {
        String apart = "coop 2 5 0 1;wind 0 2;";
        look(apart, 1, 1);
        // Ashore X is held: three kinds, then two are at X 9.
        look("bottle 9 1 3 1;wind 3 2;current 1 1;", 4, 3);
        look("bottle 8 1 3 1;wind 3 2;current 1 1;", 4, 2);
        look("bottle 8 1 3 1;wind 3 2;", 4, 3);
        look("bottle 7 1 3 1;wind 3 2;", 4, 2);
        look("bottle 6 1 3 1;wind 3 2;", 4, 1);
        look("bottle 9 1 3 1;wind 3 2;", NONE, NONE);
        EDGES.script("tell " + apart + " = 2", "see 0 1 15 = 1", "kinds 0 = 8", "look 0 0 = -4", "look 0 1 = -4",
            "see 0 1 16 = 2", "kinds 0 = 0", "look 0 0 = -4", "look 0 1 = -4", "forget 0 = 2", "look 0 0 = 1");
        // Of the two that are left by what is SEEN; the others are apart from these already.
        EDGES.script("tell tub 8 5 0 1;wind 0 2;wind 1 4; = 3", "see 0 2 18 = 1", "kinds 0 = 3", "look 0 0 = 1",
            "look 0 1 = 1", "see 0 1 19 = 2", "kinds 0 = 1", "look 0 0 = -4");
        // Behind 2 HOURS the coop alone is apart, behind 3 the piano, too: not the first by which fewer are left.
        look("bottle 6 5 0 1;wind 0 3;current 9 1;", 3, 2);
    }

    private static void p37Drift() {
        EDGES.behind();
        EDGES.still("drift 1 1 0", STATE);
        EDGES.still("drift 1 60 1", STATE);
        EDGES.bounds("drift 1 . 0", 1, 60);
        EDGES.bounds("drift 1 1 .", 0, 1);
        EDGES.behind(Edges.BUSY);
        EDGES.bounds("drift 1 . 0", 1, 60);
        EDGES.bounds("drift 1 1 .", 0, 1);
        EDGES.still("drift 1 61 2", BAD);
        for (int seed : new int[] {0, 1, -1, Integer.MAX_VALUE, Integer.MIN_VALUE}) {
            for (int n : new int[] {1, 60}) {
                for (int what = 0; what <= 1; what++) {
                    EDGES.still("drift " + seed + " " + n + " " + what, byHand(Edges.BUSY, seed, n)[what]);
                }
            }
        }
    }

    /** "bits 16 to 30 of it are got": by seeds that become a number whose bits 16 to 30 are none, or all. */
    private static void p37DriftOfBits() {
        // They become 0, 0x0000ffff, 0x80000000, 0x8000ffff: 0 is got, which is TUB 0 at X 0, Y 1.
        EDGES.behind("tell bottle 9 9 3 1;bottle 9 9 3 2;bottle 9 9 3 4;bottle 9 9 3 8;heir 0 3 3 0;");
        for (int seed : new int[] {-59267453, -115164386, 2088216195, 2032319262}) {
            EDGES.answers("drift " + seed + " 1 0", 1);
            EDGES.answers("drift " + seed + " 1 1", 1);
        }
        // 0x7fff0000, 0x7fffffff, 0xffff0000, 0xffffffff: 32767 is got; X 4095 modulo 10, Y 1 more than 255 modulo 9.
        String tubs = "tell tub 9 9 3 1;tub 9 9 3 2;tub 9 9 3 4;tub 9 9 3 8;wind 3 1;current 4 3;heir 6 0 23 0;";
        int[] tubGot = {0, 0, 1, 1, 3};
        for (int seed : new int[] {-1861048701, -1916945634, 286434947, 230538014}) {
            for (int n = 1; n <= 4; n++) {
                EDGES.behind(tubs, "sink " + n);
                EDGES.answers("drift " + seed + " 1 0", 1 << tubGot[n]);
                EDGES.answers("drift " + seed + " 1 1", 1 << tubGot[n]);
            }
        }
    }

    /** One TUB to 4, days one by one: "and stays so in the DAYS behind", "by the last DAY". */
    private static void p37DriftOfSeeds() {
        String[] tubs = {"coop 4 9 3 5;", "tub 4 2 3 10;", "piano 0 9 4 20;", "bottle 9 1 3 40;"};
        StringBuilder text = new StringBuilder("tell wind 3 1;wind 4 1;current 2 3;heir 2 0 23 3;heir 7 4 9 3;");
        for (int n = 0; n <= 3; n++) {
            text.append(tubs[n]);
            String[] calls = {text.toString()};
            EDGES.behind(calls);
            for (int seed : new int[] {5, -77, 123456789, Integer.MIN_VALUE + 7}) {
                for (int days : new int[] {1, 2, 3, 59, 60}) {
                    int[] want = byHand(calls, seed, days);
                    EDGES.answers("drift " + seed + " " + days + " 0", want[0]);
                    EDGES.answers("drift " + seed + " " + days + " 1", want[1]);
                }
            }
        }
    }

    /** What the days of a seed come to if the TUBS are really put in there. */
    private static int[] byHand(String[] setup, int seed, int days) {
        Play play = new Play(setup);
        long sum = 0;
        long next = seed;
        for (int d = 0; d < days; d++) {
            next = Math.floorMod(next * 1103515245L + 12345L, 1L << 32);
            long got = next / 65536 % 32768;
            long t = got % play.answer("rule 0");
            play.answer("alter " + t + " 1 " + got / 8 % 10);
            play.answer("alter " + t + " 2 " + (1 + got / 128 % 9));
            sum += play.answer("all 4");
        }
        return new int[] {(int) sum, (int) play.answer("all 1")};
    }
}
