/** Edges of promises 11 to 17: what is changed. */
public final class ChangeEdgeTest {
    private static final Edges EDGES = new Edges("ChangeEdgeTest");
    private static final int BAD = Edges.BAD, FULL = Edges.FULL;

    private static final int[] TUB_LEAST = {0, 0, 1, 0, 1};
    private static final int[] TUB_MOST = {3, 9, 9, 23, 99};

    public static void main(String[] args) {
        p11AlterWhichTub();
        p11AlterToBounds();
        p11AlterChanges();
        p12StandWhichHeir();
        p12StandToBounds();
        p12FromAboveUntil();
        p12StandChanges();
        p13Set();
        p14Blow();
        p15Phase();
        p16CastBounds();
        p16CastFull();
        p16CastAnew();
        p17Sink();
        p17SinkAll();
        EDGES.finish();
    }

    /** "KIND, X, Y, HOUR, ESTATE (what 0 to 4) of a TUB becomes v": no TUBS, one, 4; BAD. */
    private static void p11AlterWhichTub() {
        EDGES.behind();
        EDGES.still("alter 0 0 0", BAD);
        EDGES.still("alter 0 4 1", BAD);
        EDGES.behind("cast 4 4 4");
        EDGES.bounds("alter . 1 5", 0, 0);
        EDGES.behind("tell " + Edges.CROWD);
        EDGES.bounds("alter . 1 9", 0, 3);
        EDGES.behind(Edges.BUSY);
        EDGES.bounds("alter . 1 9", 0, 1);
        EDGES.bounds("alter 1 . 1", 0, 4);
        EDGES.still("alter 2 5 100", BAD);
        EDGES.still("alter 0 5 1", BAD);
    }

    private static void p11AlterToBounds() {
        EDGES.behind(Edges.BUSY);
        for (int what = 0; what <= 4; what++) {
            EDGES.bounds("alter 0 " + what + " .", TUB_LEAST[what], TUB_MOST[what]);
            EDGES.bounds("alter 1 " + what + " .", TUB_LEAST[what], TUB_MOST[what]);
        }
    }

    /** "it becomes v: what it was", and nothing else; to what it is already, too. */
    private static void p11AlterChanges() {
        EDGES.behind(Edges.BUSY);
        int[] was = {2, 5, 4, 4, 40};
        for (int what = 0; what <= 4; what++) EDGES.still("alter 1 " + what + " " + was[what], was[what]);
        EDGES.changes("alter 1 0 0", 2, "tub 1 0 = 0", "tub 1 5 = 1");
        EDGES.changes("alter 1 0 1", 2, "tub 1 0 = 1", "tub 1 5 = 0");
        EDGES.changes("alter 1 0 3", 2, "tub 1 0 = 3", "tub 1 5 = 3");
        EDGES.changes("alter 1 1 0", 5, "tub 1 1 = 0");
        EDGES.changes("alter 1 1 9", 5, "tub 1 1 = 9");
        EDGES.changes("alter 1 2 1", 4, "tub 1 2 = 1");
        EDGES.changes("alter 1 2 9", 4, "tub 1 2 = 9");
        EDGES.changes("alter 1 3 0", 4, "tub 1 3 = 0");
        EDGES.changes("alter 1 3 23", 4, "tub 1 3 = 23");
        EDGES.changes("alter 1 4 1", 40, "tub 1 4 = 1", "rule 3 = 12");
        EDGES.changes("alter 0 4 99", 11, "tub 0 4 = 99", "rule 3 = 139");
        EDGES.behind("tell " + Edges.CROWD);
        EDGES.changes("alter 3 4 99", 7, "tub 3 4 = 99", "rule 3 = 114");
    }

    private static void p12StandWhichHeir() {
        EDGES.behind();
        EDGES.still("stand 0 0 0", BAD);
        EDGES.behind("tell heir 1 2 3 4;");
        EDGES.bounds("stand . 0 5", 0, 0);
        EDGES.behind("tell " + Edges.CROWD);
        EDGES.bounds("stand . 0 9", 0, 3);
        EDGES.behind(Edges.BUSY);
        EDGES.bounds("stand . 0 9", 0, 1);
        EDGES.bounds("stand 1 . 4", 0, 3);
        EDGES.still("stand 2 4 24", BAD);
    }

    private static void p12StandToBounds() {
        EDGES.behind("tell heir 3 0 23 4;heir 5 6 7 8;");
        EDGES.bounds("stand 0 0 .", 0, 9);
        EDGES.bounds("stand 0 1 .", 0, 23);
        EDGES.bounds("stand 0 2 .", 0, 23);
        EDGES.bounds("stand 0 3 .", 0, 9);
        EDGES.bounds("stand 1 0 .", 0, 9);
        EDGES.bounds("stand 1 3 .", 0, 9);
    }

    /** "BAD (also FROM above UNTIL)": on both sides of each, and at the ends of the day. */
    private static void p12FromAboveUntil() {
        EDGES.behind("tell heir 3 0 23 4;heir 5 6 7 8;");
        EDGES.bounds("stand 1 1 .", 0, 7);
        EDGES.bounds("stand 1 2 .", 6, 23);
        EDGES.changes("stand 1 1 7", 6, "heir 1 1 = 7");
        EDGES.changes("stand 1 2 6", 7, "heir 1 2 = 6");
        EDGES.still("stand 1 1 6", 6);
        EDGES.still("stand 1 2 7", 7);
        EDGES.script("tell heir 1 23 23 1;heir 1 0 0 1; = 2", "stand 0 2 22 = -1", "stand 1 1 1 = -1",
            "stand 0 1 22 = 23", "stand 0 2 22 = 23", "stand 0 1 23 = -1", "stand 1 2 1 = 0", "stand 1 1 1 = 0",
            "stand 1 2 0 = -1", "heir 0 1 = 22", "heir 0 2 = 22", "heir 1 1 = 1", "heir 1 2 = 1");
        // PLACE and HOOK have no such bound.
        EDGES.script("tell heir 1 5 9 1; = 1", "stand 0 0 9 = 1", "stand 0 3 9 = 1", "stand 0 0 0 = 9", "stand 0 3 0 = 9");
    }

    private static void p12StandChanges() {
        EDGES.behind(Edges.BUSY);
        int[] was = {6, 4, 12, 2};
        for (int what = 0; what <= 3; what++) EDGES.still("stand 1 " + what + " " + was[what], was[what]);
        EDGES.changes("stand 1 0 0", 6, "heir 1 0 = 0");
        EDGES.changes("stand 1 0 9", 6, "heir 1 0 = 9");
        EDGES.changes("stand 1 1 0", 4, "heir 1 1 = 0");
        EDGES.changes("stand 1 1 12", 4, "heir 1 1 = 12");
        EDGES.changes("stand 1 2 4", 12, "heir 1 2 = 4");
        EDGES.changes("stand 1 2 23", 12, "heir 1 2 = 23");
        EDGES.changes("stand 1 3 0", 2, "heir 1 3 = 0", "count 4 = 3");
        EDGES.changes("stand 1 3 9", 2, "heir 1 3 = 9", "count 4 = 12");
        EDGES.behind("tell " + Edges.CROWD);
        EDGES.changes("stand 3 3 9", 7, "heir 3 3 = 9", "count 4 = 24");
    }

    private static void p13Set() {
        EDGES.behind(Edges.BUSY);
        EDGES.bounds("set . 1", 0, 9);
        EDGES.bounds("set 1 .", 0, 4);
        EDGES.bounds("set 0 .", 0, 4);
        EDGES.bounds("set 9 .", 0, 4);
        EDGES.still("set 10 5", BAD);
        EDGES.changes("set 0 4", 0, "current 0 = 4");
        EDGES.changes("set 0 2", 0, "current 0 = 2", "count 5 = 1");
        EDGES.changes("set 8 0", 2, "current 8 = 0", "count 5 = 3");
        EDGES.changes("set 9 0", 4, "current 9 = 0");
        EDGES.still("set 0 0", 0);
        EDGES.still("set 9 4", 4);
        for (int row = 0; row <= 9; row++) {
            EDGES.script("set " + row + " 4 = 2", "set " + row + " 0 = 4", "current " + row + " = 0",
                "set " + row + " 5 = -1", "set " + row + " -1 = -1", "count 5 = 1", "current " + row + " = 0");
        }
    }

    private static void p14Blow() {
        EDGES.behind(Edges.BUSY);
        EDGES.bounds("blow . 1", 0, 23);
        EDGES.bounds("blow 0 .", 0, 4);
        EDGES.bounds("blow 4 .", 0, 4);
        EDGES.bounds("blow 23 .", 0, 4);
        EDGES.still("blow 24 5", BAD);
        EDGES.changes("blow 0 4", 0, "wind 0 = 4", "rule 4 = 3");
        EDGES.changes("blow 4 0", 1, "wind 4 = 0", "rule 4 = 1");
        EDGES.changes("blow 23 1", 4, "wind 23 = 1");
        EDGES.still("blow 4 1", 1);
        EDGES.still("blow 5 0", 0);
        for (int hour = 0; hour <= 23; hour++) {
            EDGES.script("blow " + hour + " 4 = 0", "blow " + hour + " 1 = 4", "blow " + hour + " 5 = -1",
                "blow " + hour + " -1 = -1", "wind " + hour + " = 1", "rule 4 = 1", "blow " + hour + " 0 = 1", "rule 4 = 0");
        }
    }

    private static void p15Phase() {
        EDGES.behind(Edges.BUSY);
        EDGES.bounds("phase .", 0, 5);
        EDGES.changes("phase 0", 5, "rule 2 = 0");
        EDGES.changes("phase 4", 5, "rule 2 = 4");
        EDGES.still("phase 5", 5);
        EDGES.behind();
        EDGES.bounds("phase .", 0, 5);
        EDGES.still("phase 0", 0);
        EDGES.changes("phase 5", 0, "rule 2 = 5");
    }

    /** "A TUB more, of KIND tub, with ESTATE 1: how many there are. BAD". */
    private static void p16CastBounds() {
        EDGES.behind(Edges.BUSY);
        EDGES.bounds("cast . 1 0", 0, 9);
        EDGES.bounds("cast 0 . 0", 1, 9);
        EDGES.bounds("cast 0 1 .", 0, 23);
        EDGES.still("cast 10 0 24", BAD);
        EDGES.changes("cast 0 1 0", 3, "rule 0 = 3", "rule 3 = 52", "tub 2 0 = 0", "tub 2 1 = 0", "tub 2 2 = 1",
            "tub 2 3 = 0", "tub 2 4 = 1", "tub 2 5 = 1");
        EDGES.changes("cast 9 9 23", 3, "rule 0 = 3", "rule 3 = 52", "tub 2 0 = 0", "tub 2 1 = 9", "tub 2 2 = 9",
            "tub 2 3 = 23", "tub 2 4 = 1", "tub 2 5 = 1");
    }

    /** "FULL": the 5th; what is BAD is BAD there, too. */
    private static void p16CastFull() {
        EDGES.script("cast 0 1 0 = 1", "cast 9 9 23 = 2", "cast 0 9 0 = 3", "cast 9 1 23 = 4", "cast 0 1 0 = -3",
            "rule 0 = 4", "rule 3 = 4", "sink 3 = 4", "cast 5 5 5 = 4", "cast 0 1 0 = -3", "tub 3 1 = 5");
        EDGES.behind("tell " + Edges.CROWD);
        EDGES.still("cast 0 1 0", FULL);
        EDGES.still("cast 9 9 23", FULL);
        EDGES.bounds("cast . 1 0", 0, 9);
        EDGES.bounds("cast 0 . 0", 1, 9);
        EDGES.bounds("cast 0 1 .", 0, 23);
    }

    /** What was at its number before leaves nothing to it. */
    private static void p16CastAnew() {
        EDGES.behind("tell " + Edges.CROWD, "alter 3 4 99", "sink 3");
        EDGES.changes("cast 0 1 0", 4, "rule 0 = 4", "rule 3 = 16", "tub 3 0 = 0", "tub 3 1 = 0", "tub 3 2 = 1",
            "tub 3 3 = 0", "tub 3 4 = 1", "tub 3 5 = 1");
        EDGES.script("tell coop 9 9 23 99; = 1", "sink 0 = 1", "cast 0 1 0 = 1", "tub 0 0 = 0", "tub 0 4 = 1",
            "tub 0 5 = 1");
    }

    /** "TUBS are the first n alone: how many there were. BAD (n above that, too)". */
    private static void p17Sink() {
        EDGES.behind(Edges.BUSY);
        EDGES.bounds("sink .", 0, 2);
        EDGES.still("sink 2", 2);
        EDGES.changes("sink 1", 2, "rule 0 = 1", "rule 3 = 11", "tub 1 0 = -1", "tub 1 1 = -1", "tub 1 2 = -1",
            "tub 1 3 = -1", "tub 1 4 = -1", "tub 1 5 = -1");
        EDGES.behind("tell " + Edges.CROWD);
        EDGES.bounds("sink .", 0, 4);
        EDGES.still("sink 4", 4);
        EDGES.behind();
        EDGES.bounds("sink .", 0, 0);
        EDGES.still("sink 0", 0);
    }

    private static void p17SinkAll() {
        EDGES.script("tell " + Edges.CROWD + " = 8", "sink 3 = 4", "tub 3 0 = -1", "tub 2 0 = 2", "sink 4 = -1",
            "sink 2 = 3", "sink 3 = -1", "sink 1 = 2", "tub 0 4 = 4", "tub 1 4 = -1", "sink 0 = 1", "tub 0 0 = -1",
            "sink 1 = -1", "sink 0 = 0", "rule 1 = 4", "rule 3 = 0", "cast 1 1 1 = 1");
    }
}
