/** Promises 32 to 37: which it was, by a seed. */
public final class SeenTest {
    private static final Check CHECK = new Check("SeenTest");
    private static final int NONE = FlotsamWill.NONE, BAD = FlotsamWill.BAD, STATE = FlotsamWill.STATE;

    public static void main(String[] args) {
        p32See();
        p33Forget();
        p34Kinds();
        p34KindsOfGoneTubs();
        p35Sets();
        p36Look();
        p36LookAtWorst();
        p37Drift();
        p37DriftOfMany();
        CHECK.finish();
    }

    private static void p32See() {
        FlotsamWill x = CHECK.told("tub 4 5 0 1;tub 4 5 0 1;");
        CHECK.due("see tub -1", x.see(-1, 0, 14), BAD);
        CHECK.due("see tub 2", x.see(2, 0, 14), BAD);
        CHECK.due("see behind -1", x.see(0, -1, 14), BAD);
        CHECK.due("see behind 25", x.see(0, 25, 14), BAD);
        CHECK.due("see east -1", x.see(0, 0, -1), BAD);
        CHECK.due("see east 31", x.see(0, 0, 31), BAD);
        CHECK.due("nothing is seen", x.count(0), 0);
        CHECK.due("the first", x.see(0, 0, 0), 1);
        CHECK.due("the second", x.see(1, 24, 30), 2);
        CHECK.due("the same", x.see(1, 24, 30), 3);
        for (int n = 4; n <= 6; n++) CHECK.due("see the " + n + "th", x.see(0, 1, 2), n);
        CHECK.due("the seventh", x.see(0, 1, 2), FlotsamWill.FULL);
        CHECK.due("the seventh, BAD", x.see(2, 1, 2), BAD);
        CHECK.due("six are seen", x.count(0), 6);
    }

    private static void p33Forget() {
        FlotsamWill x = CHECK.told("tub 4 5 0 1;");
        CHECK.due("forget 0 of 0", x.forget(0), 0);
        CHECK.due("forget 1 of 0", x.forget(1), BAD);
        CHECK.due("what is so", x.see(0, 0, 14), 1);
        CHECK.due("what is not so", x.see(0, 0, 15), 2);
        CHECK.due("no kinds", x.kinds(0), 0);
        CHECK.due("forget -1", x.forget(-1), BAD);
        CHECK.due("forget 3", x.forget(3), BAD);
        CHECK.due("forget 2", x.forget(2), 2);
        CHECK.due("no kinds still", x.kinds(0), 0);
        CHECK.due("forget 1", x.forget(1), 2);
        CHECK.due("all kinds", x.kinds(0), 15);
        CHECK.due("one is seen", x.count(0), 1);
    }

    private static void p34Kinds() {
        int[] bits = {2, 1, 4, 8, 0};
        for (int windage = 0; windage <= 4; windage++) {
            FlotsamWill x = CHECK.told("coop 2 5 0 1;tub 3 5 0 1;wind 0 2;");
            CHECK.due("see", x.see(0, 1, 12 + windage), 1);
            CHECK.due("kinds by windage " + windage, x.kinds(0), bits[windage]);
            CHECK.due("see another so", x.see(1, 1, 14), 2);
            CHECK.due("kinds still", x.kinds(0), bits[windage]);
            CHECK.due("see another not so", x.see(1, 1, 15), 3);
            CHECK.due("kinds no more", x.kinds(0), 0);
            CHECK.due("the KIND is as it was", x.tub(0, 0), 3);
            CHECK.due("kinds -1", x.kinds(-1), BAD);
            CHECK.due("kinds 2", x.kinds(2), BAD);
        }
        FlotsamWill x = CHECK.told("coop 2 5 0 1;wind 0 2;");
        CHECK.due("nothing is seen", x.kinds(0), 15);
        CHECK.due("see where it is put in", x.see(0, 0, 12), 1);
        CHECK.due("all kinds are put in there", x.kinds(0), 15);
        // What is LOST is seen where it is.
        CHECK.tell(x, "tub 9 5 0 1;wind 0 2;");
        CHECK.due("see it LOST", x.see(0, 24, 22), 1);
        CHECK.due("kinds that are LOST there", x.kinds(0), 8);
    }

    private static void p34KindsOfGoneTubs() {
        FlotsamWill x = CHECK.told("tub 2 5 0 1;tub 3 5 0 1;");
        CHECK.due("see", x.see(1, 0, 13), 1);
        CHECK.due("kinds", x.kinds(0), 15);
        CHECK.due("sink", x.sink(1), 2);
        CHECK.due("it is not so of a tub that is gone", x.kinds(0), 0);
        CHECK.due("sets neither", x.sets(1), 0);
        CHECK.due("cast another there", x.cast(3, 1, 5), 2);
        CHECK.due("it is so of the next of its number", x.kinds(0), 15);
    }

    private static void p35Sets() {
        FlotsamWill x = CHECK.told("tub 4 5 0 1;current 5 0;current 6 3;");
        CHECK.due("nothing is seen", x.sets(5), 31);
        CHECK.due("see", x.see(0, 1, 15), 1);
        CHECK.due("sets 5", x.sets(5), 8);
        CHECK.due("sets 6", x.sets(6), 0);
        CHECK.due("set", x.set(5, 3), 0);
        CHECK.due("sets of a ROW in which it is not", x.sets(7), 31);
        CHECK.due("see behind two", x.see(0, 2, 16), 2);
        CHECK.due("sets 6, then", x.sets(6), 8);
        CHECK.due("sets 0", x.sets(0), 31);
        CHECK.due("sets 9", x.sets(9), 31);
        CHECK.due("CURRENT is as it was", x.current(5), 3);
        CHECK.due("sets -1", x.sets(-1), BAD);
        CHECK.due("sets 10", x.sets(10), BAD);
        // ASHORE holds X to the shore, so that several currents do.
        CHECK.tell(x, "tub 8 1 3 1;");
        CHECK.due("see ASHORE", x.see(0, 24, 19), 1);
        CHECK.due("sets 1", x.sets(1), 24);
    }

    private static void p36Look() {
        FlotsamWill x = CHECK.told("coop 2 5 0 1;wind 4 2;");
        CHECK.due("look", x.look(0, 0), 5);
        CHECK.due("left", x.look(0, 1), 1);
        CHECK.due("see", x.see(0, 5, 13), 1);
        CHECK.due("one kind is left", x.kinds(0), 1);
        CHECK.due("no fewer than one", x.look(0, 0), NONE);
        CHECK.due("no fewer than one, how many", x.look(0, 1), NONE);
        CHECK.due("see what is not so", x.see(0, 5, 14), 2);
        CHECK.due("no fewer than none", x.look(0, 0), NONE);
        CHECK.due("forget", x.forget(0), 2);
        CHECK.due("blow", x.blow(4, 0), 2);
        CHECK.due("all drift alike", x.look(0, 0), NONE);
        CHECK.due("all drift alike, how many", x.look(0, 1), NONE);
        CHECK.due("look -1", x.look(-1, 0), BAD);
        CHECK.due("look 1", x.look(1, 0), BAD);
        CHECK.due("what -1", x.look(0, -1), BAD);
        CHECK.due("what 2", x.look(0, 2), BAD);
        CHECK.tell(x, "coop 2 5 0 1;wind 23 2;");
        CHECK.due("behind the last HOUR", x.look(0, 0), 24);
    }

    private static void p36LookAtWorst() {
        // In HOUR 3 the wind brings all but the bottle ashore; the current of ROW 1 takes that on.
        FlotsamWill x = CHECK.told("coop 7 2 3 1;wind 3 1;current 1 3;");
        CHECK.due("look where three are alike", x.look(0, 0), 5);
        CHECK.due("three are left at the worst", x.look(0, 1), 3);
        // The wind takes piano and coop out of the sea, where the next does not bring them back.
        CHECK.tell(x, "tub 8 5 0 1;wind 0 2;wind 1 4;");
        CHECK.due("look at once", x.look(0, 0), 1);
        CHECK.due("one is left", x.look(0, 1), 1);
        CHECK.due("see that it is not LOST", x.see(0, 2, 18), 1);
        CHECK.due("tub and bottle", x.kinds(0), 3);
        CHECK.due("look to tell these two", x.look(0, 0), 1);
    }

    private static void p37Drift() {
        // Seed 1 becomes 1103527590; 16838 is got: X 2104 modulo 10, Y 1 more than 131 modulo 9.
        FlotsamWill x = CHECK.told("bottle 0 9 3 8;");
        CHECK.due("nobody hooks", x.drift(1, 1, 0), 0);
        CHECK.due("nothing is hooked", x.drift(1, 1, 1), 0);
        x = CHECK.told("coop 0 9 3 8;heir 4 0 23 0;wind 3 1;");
        CHECK.due("at 4 6 it is hooked", x.drift(1, 1, 0), 8);
        CHECK.due("it is the first", x.drift(1, 1, 1), 1);
        CHECK.due("X is as it was", x.tub(0, 1), 0);
        CHECK.due("Y is as it was", x.tub(0, 2), 9);
        CHECK.due("n 0", x.drift(1, 0, 0), BAD);
        CHECK.due("n 61", x.drift(1, 61, 0), BAD);
        CHECK.due("what -1", x.drift(1, 1, -1), BAD);
        CHECK.due("what 2", x.drift(1, 1, 2), BAD);
        CHECK.due("sink", x.sink(0), 1);
        CHECK.due("no tubs", x.drift(1, 1, 0), STATE);
        CHECK.due("no tubs, BAD", x.drift(1, 0, 0), BAD);
    }

    private static void p37DriftOfMany() {
        FlotsamWill x = CHECK.told("tub 2 3 0 10;piano 5 4 2 40;heir 2 0 23 9;heir 6 4 12 1;wind 4 1;wind 5 2;phase 2;");
        int[] seeds = {0, 7, -3, Integer.MAX_VALUE, Integer.MIN_VALUE};
        for (int seed : seeds) {
            for (int n = 1; n <= 60; n++) {
                int[] want = byHand(x, seed, n);
                CHECK.due("drift " + seed + " " + n, x.drift(seed, n, 0), want[0]);
                CHECK.due("drift " + seed + " " + n, x.drift(seed, n, 1), want[1]);
            }
        }
    }

    /** What the days of a seed come to if the tubs are really put there, in an image's care. */
    private static int[] byHand(FlotsamWill x, int seed, int n) {
        x.keep(0);
        int sum = 0;
        long next = seed;
        for (int d = 0; d < n; d++) {
            next = (int) (next * 1103515245L + 12345L);
            int got = (int) (next >> 16 & 0x7fff);
            int t = got % x.rule(0);
            x.alter(t, 1, got / 8 % 10);
            x.alter(t, 2, 1 + got / 128 % 9);
            sum += x.all(4);
        }
        int bits = x.all(1);
        x.back(0);
        return new int[] {sum, bits};
    }
}
