import java.util.List;
import java.util.Map;
import java.util.TreeMap;

/** Edges of promises 38 to 44: images, sheets. */
public final class SheetEdgeTest {
    private static final Edges EDGES = new Edges("SheetEdgeTest");
    private static final int BAD = Edges.BAD, STATE = Edges.STATE, NONE = Edges.NONE;
    private static final int NULL = 1, INDEX = 2, CAST = 3;

    public static void main(String[] args) {
        p38Keep();
        p38KeepIsAll();
        p39Back();
        p39BackIsAll();
        p39BackOfNothingAndOfAll();
        p40Sheet();
        p40SheetFromNoCellsTo40();
        p41LayFaults();
        p41LayFirstAndLastCell();
        p41LayLowestBits();
        p42ReadBounds();
        p42ReadOfNoTimes();
        p42ReadNull();
        p42ReadCast();
        p42ReadIndex();
        p42ReadWhatIsWhole();
        p42ReadRefusedByBounds();
        p42ReadRefusedByFull();
        p42ReadTheFirstMet();
        p43Torn();
        p43TornIsTheLatest();
        p44Count();
        p44CountFromNoneToAll();
        EDGES.finish();
    }

    /** "IMAGE k (0, 1) .. whether there was one (1, 0). BAD." */
    private static void p38Keep() {
        EDGES.behind();
        EDGES.bounds("keep .", 0, 1);
        EDGES.script("count 1 = 0", "keep 1 = 0", "count 1 = 1", "back 0 = -2", "keep 1 = 1", "count 1 = 1", "keep 0 = 0",
            "count 1 = 2", "keep 0 = 1", "keep 1 = 1", "tell phase 1; = 1", "count 1 = 0", "keep 0 = 0", "keep 1 = 0");
        EDGES.script("keep 0 = 0", "tell @ = -10", "keep 0 = 1");
        EDGES.behind(Edges.BUSY);
        EDGES.bounds("keep .", 0, 1);
        EDGES.behind(Edges.and(Edges.BUSY, "keep 1"));
        EDGES.still("keep 1", 1);
        // The other IMAGE, and what there is, stay as they are.
        EDGES.behind(Edges.and(Edges.BUSY, "keep 0", "alter 0 4 12", "keep 1", "alter 0 4 13"));
        EDGES.changes("keep 0", 1, "image 0: back 0 = 53", "image 0: rule 3 = 53", "image 0: tub 0 4 = 13");
        EDGES.changes("keep 1", 1, "image 1: back 1 = 53", "image 1: rule 3 = 53", "image 1: tub 0 4 = 13");
    }

    /** "is TUBS, HEIRS, CURRENTS, WINDS (all of them), PHASE": an IMAGE of a new object, of all that can be. */
    private static void p38KeepIsAll() {
        for (int k = 0; k <= 1; k++) {
            imageIsWhatIs(k, "fault");
            imageIsWhatIs(k, "tell " + Edges.CROWD + "current 0 0;current 9 4;wind 0 1;wind 23 4;phase 5;");
            imageIsWhatIs(k, windy());
        }
    }

    private static String[] windy() {
        String[] calls = new String[34];
        for (int hour = 0; hour <= 23; hour++) calls[hour] = "blow " + hour + " " + (1 + hour % 4);
        for (int row = 0; row <= 9; row++) calls[24 + row] = "set " + row + " " + (row == 2 ? 1 : row % 5);
        return calls;
    }

    private static void imageIsWhatIs(int k, String... calls) {
        Map<String, Long> sight = Sight.plain(Edges.and(calls, "keep " + k));
        Map<String, Long> want = new TreeMap<>(sight);
        for (Map.Entry<String, Long> one : sight.entrySet()) {
            String name = "image " + k + ": " + one.getKey();
            if (one.getKey().matches("(rule|tub|heir|current|wind) .*")) want.put(name, one.getValue());
        }
        want.put("image " + k + ": back " + k, sight.get("rule 3"));
        List<String> changes = Sight.changes(want, sight);
        EDGES.holds("IMAGE " + k + " of " + List.of(calls) + ": " + changes, changes.isEmpty());
        for (String name : want.keySet()) EDGES.holds(name + " is there", sight.containsKey(name));
    }

    /** "BAD; STATE: there is none." */
    private static void p39Back() {
        EDGES.behind();
        EDGES.bounds("back .", 0, 1);
        EDGES.still("back 0", STATE);
        EDGES.still("back 1", STATE);
        EDGES.behind("cast 4 4 4", "keep 1");
        EDGES.bounds("back .", 0, 1);
        EDGES.still("back 0", STATE);
        EDGES.still("back 1", 1);
        EDGES.behind("cast 4 4 4", "keep 0");
        EDGES.still("back 1", STATE);
        EDGES.behind("keep 0", "keep 1", "tell phase 3;");
        EDGES.still("back 0", STATE);
        EDGES.still("back 1", STATE);
        EDGES.behind(Edges.BUSY);
        EDGES.bounds("back .", 0, 1);
    }

    /** "All is as IMAGE k: ESTATES of all": what no IMAGE is stays, and so do both IMAGES. */
    private static void p39BackIsAll() {
        EDGES.behind(Edges.BUSY);
        EDGES.changes("back 0", 50, "rule 3 = 50", "tub 0 1 = 2", "tub 0 4 = 10", "heir 1 3 = 1", "count 4 = 4");
        EDGES.changes("back 1", 50, "rule 3 = 50", "tub 0 4 = 10");
        String[] other = Edges.and(Edges.BUSY, "sink 1", "alter 0 0 3", "stand 0 0 9", "set 5 0", "set 9 2", "blow 4 0",
            "blow 0 3", "phase 0", "back 1");
        Map<String, Long> straight = Sight.whole(Edges.and(Edges.BUSY, "back 1"));
        List<String> changes = Sight.changes(straight, Sight.whole(other));
        EDGES.holds("whatever was changed, all is as the IMAGE: " + changes, changes.isEmpty());
        EDGES.behind(Edges.and(Edges.BUSY, "back 1"));
        EDGES.still("back 1", 50);
    }

    private static void p39BackOfNothingAndOfAll() {
        EDGES.script("keep 0 = 0", "tub 0 0 = -1", "cast 4 4 4 = 1", "set 0 0 = 2", "blow 23 4 = 0", "phase 5 = 0",
            "back 0 = 0", "rule 0 = 0", "current 0 = 2", "wind 23 = 0", "rule 2 = 0", "back 0 = 0");
        EDGES.script("tell tub 1 1 1 99;tub 1 1 1 99;tub 1 1 1 99;tub 1 1 1 99; = 4", "keep 1 = 0", "sink 0 = 4",
            "back 1 = 396", "rule 0 = 4", "tub 3 4 = 99", "cast 1 1 1 = -3");
        EDGES.script("tell heir 1 2 3 4;heir 2 3 4 5;heir 3 4 5 6;heir 4 5 6 7; = 4", "keep 0 = 0", "stand 3 3 9 = 7",
            "stand 0 0 0 = 1", "back 0 = 0", "heir 3 3 = 7", "heir 0 0 = 1", "rule 1 = 4");
        EDGES.script("cast 1 1 1 = 1", "keep 0 = 0", "cast 1 1 1 = 2", "keep 1 = 0", "sink 0 = 2", "back 0 = 1", "rule 0 = 1",
            "back 1 = 2", "rule 0 = 2", "back 0 = 1", "cast 2 2 2 = 2", "tub 1 1 = 2", "back 1 = 2", "tub 1 1 = 1");
    }

    /** "BAD: also n above 40; -14 (SIZE): n below 0", the first that fits. */
    private static void p40Sheet() {
        EDGES.behind(Edges.BUSY);
        EDGES.bounds("sheet . 0 3", 0, 3);
        EDGES.bounds("sheet 0 . 3", 0, 2);
        for (int n : new int[] {41, 1000, 256, 65536, Integer.MAX_VALUE}) EDGES.still("sheet 0 0 " + n, BAD);
        for (int n : new int[] {-1, -40, -256, -65536, Integer.MIN_VALUE}) EDGES.still("sheet 0 0 " + n, -14);
        EDGES.still("sheet -1 0 -1", BAD);
        EDGES.still("sheet 4 0 -1", BAD);
        EDGES.still("sheet 0 -1 -1", BAD);
        EDGES.still("sheet 0 3 -1", BAD);
        EDGES.still("sheet 4 3 41", BAD);
        EDGES.behind();
        for (int k = 0; k <= 3; k++) {
            for (int lane = 0; lane <= 2; lane++) {
                EDGES.still("sheet " + k + " " + lane + " -1", -14);
                EDGES.still("sheet " + k + " " + lane + " 41", BAD);
                String[] changes = {"sheet " + k + " lane = " + lane, "sheet " + k + " cells = 2", "count 3 = 2"};
                if (k > 0) changes = new String[] {changes[0], changes[1]};
                EDGES.changes("sheet " + k + " " + lane + " 2", 1, changes);
            }
        }
    }

    /** "a new row of CELLS 0": of 0 and of 40 CELLS, of what it was before nothing is left. */
    private static void p40SheetFromNoCellsTo40() {
        EDGES.behind(Edges.BUSY);
        EDGES.changes("sheet 0 0 0", 1, "sheet 0 cells = 0", "count 3 = 0");
        EDGES.changes("sheet 0 2 0", 1, "sheet 0 lane = 2", "sheet 0 cells = 0", "count 3 = 0");
        EDGES.changes("sheet 0 1 3", 1, "sheet 0 lane = 1", "sheet 0 cells = 3", "count 3 = 3", "sheet 0 from 0 = -20");
        EDGES.script("sheet 0 2 40 = 1", "count 3 = 40", "lay 0 39 7 = 1", "lay 0 40 7 = -12", "read 0 2 37 1 = -20",
            "lay 0 38 1 = 1", "read 0 2 37 1 = 1", "tub 0 3 = 7", "sheet 0 2 39 = 1", "lay 0 39 7 = -12", "lay 0 38 7 = 1",
            "sheet 0 2 40 = 1", "lay 0 38 1 = 1", "read 0 2 37 1 = 1", "tub 1 1 = 0", "tub 1 3 = 0");
        EDGES.script("sheet 0 0 0 = 1", "count 3 = 0", "lay 0 0 1 = -12", "read 0 0 0 1 = 0", "torn = 2", "sheet 0 0 1 = 1",
            "lay 0 0 1 = 1", "lay 0 1 1 = -12");
        EDGES.script("sheet 0 1 3 = 1", "lay 0 0 9 = 1", "lay 0 1 9 = 1", "lay 0 2 9 = 1", "sheet 0 1 3 = 1", "lay 0 1 1 = 1",
            "read 0 1 0 1 = 1", "tub 0 1 = 0", "tub 0 3 = 0");
        for (int n = 0; n <= 40; n++) {
            EDGES.script("sheet 0 1 " + n + " = 1", "count 3 = " + n, "lay 0 " + (n - 1) + " 1 = " + (n == 0 ? -12 : 1),
                "lay 0 " + n + " 1 = -12");
        }
    }

    /** "BAD: k; -10 less the FAULT: NULL, INDEX", the first that fits. */
    private static void p41LayFaults() {
        EDGES.behind(Edges.BUSY);
        EDGES.bounds("lay . 0 1", 0, 3);
        EDGES.still("lay 4 -1 1", BAD);
        for (int i : new int[] {Integer.MIN_VALUE, -256, -1, 0, 1, 39, 40, Integer.MAX_VALUE}) {
            EDGES.still("lay 2 " + i + " 1", -11);
        }
        for (int i : new int[] {Integer.MIN_VALUE, -256, -1, 7, 8, 39, 40, 256, Integer.MAX_VALUE}) {
            EDGES.still("lay 0 " + i + " 1", -12);
        }
        EDGES.still("lay 1 4 1", -12);
        EDGES.still("lay 3 3 1", -12);
        EDGES.still("lay 0 0 1", 1);
        EDGES.behind("sheet 0 0 0", "sheet 1 1 0", "sheet 2 2 0");
        for (int k = 0; k <= 2; k++) {
            EDGES.still("lay " + k + " 0 1", -12);
            EDGES.still("lay " + k + " -1 1", -12);
        }
    }

    private static void p41LayFirstAndLastCell() {
        EDGES.behind(Edges.BUSY);
        EDGES.changes("lay 0 0 9", 1, "sheet 0 from 0 = 9203");
        EDGES.changes("lay 0 6 4", 1);
        EDGES.behind(Edges.and(Edges.BUSY, "lay 0 5 2"));
        EDGES.changes("lay 0 6 4", 1, "sheet 0 from 4 = 204");
        for (int lane = 0; lane <= 2; lane++) {
            EDGES.script("sheet 3 " + lane + " 40 = 1", "lay 3 0 9 = 1", "lay 3 1 9 = 1", "lay 3 2 23 = 1", "lay 3 39 22 = 1",
                "lay 3 38 1 = 1", "lay 3 37 8 = 1", "read 3 " + lane + " 0 1 = 1", "read 3 " + lane + " 37 1 = 1",
                "tub 0 1 = 9", "tub 0 2 = 9", "tub 0 3 = 23", "tub 1 1 = 8", "tub 1 2 = 1", "tub 1 3 = 22");
        }
    }

    /** "CELL i becomes v (its lowest bits)": "with a sign", of 8, 16 and 32 bits. */
    private static void p41LayLowestBits() {
        int[] laid = {0, 5, 23, 24, -1, 127, 128, -128, 255, 256, 261, 279, 280, -251, -256, 32767, 32768, -32768, 65535,
            65536, 65541, 65559, 65560, -65531, 1 << 24, (1 << 24) + 5, 1 << 16 | 1 << 8 | 7, 1 << 8 | 7,
            Integer.MIN_VALUE, Integer.MIN_VALUE + 5, Integer.MAX_VALUE};
        for (int lane = 0; lane <= 2; lane++) {
            for (int v : laid) {
                long cell = lane == 0 ? (byte) v : lane == 1 ? (short) v : v;
                String sheet = "sheet 0 " + lane + " 3 = 1";
                long came = cell >= 0 && cell <= 23 ? 1 : -20;
                EDGES.script(sheet, "lay 0 1 9 = 1", "lay 0 2 " + v + " = 1", "read 0 " + lane + " 0 1 = " + came,
                    "tub 0 3 = " + (came == 1 ? cell : BAD));
                came = cell >= 1 && cell <= 9 ? 1 : -20;
                EDGES.script(sheet, "lay 0 1 " + v + " = 1", "read 0 " + lane + " 0 1 = " + came,
                    "tub 0 2 = " + (came == 1 ? cell : BAD));
                came = cell >= 0 && cell <= 9 ? 1 : -20;
                EDGES.script(sheet, "lay 0 1 9 = 1", "lay 0 0 " + v + " = 1", "read 0 " + lane + " 0 1 = " + came,
                    "tub 0 1 = " + (came == 1 ? cell : BAD));
            }
        }
    }

    /** "n (0 to 13) times"; "BAD: k, lane, n", ahead of all that the machine refuses. */
    private static void p42ReadBounds() {
        EDGES.behind(Edges.BUSY);
        EDGES.bounds("read . 0 0 1", 0, 3);
        EDGES.bounds("read 0 . 0 1", 0, 2);
        EDGES.bounds("read 0 0 0 .", 0, 13);
        EDGES.bounds("read 0 0 -1 .", 0, 13);
        EDGES.bounds("read 2 0 0 .", 0, 13);
        EDGES.bounds("read 0 1 0 .", 0, 13);
        EDGES.bounds("read 2 . -1 1", 0, 2);
        EDGES.bounds("read . 0 -1 0", 0, 3);
        EDGES.still("read 4 3 -1 14", BAD);
        EDGES.behind("tell " + Edges.CROWD);
        EDGES.bounds("read . 0 0 1", 0, 3);
    }

    /** "(.. of n 0: 0, no FAULT, whatever the SHEET is)": the FAULT of the read before is gone by it. */
    private static void p42ReadOfNoTimes() {
        EDGES.behind(Edges.BUSY);
        for (int k = 0; k <= 3; k++) {
            for (int f : new int[] {Integer.MIN_VALUE, -1, 0, 6, 7, 40, Integer.MAX_VALUE}) {
                EDGES.changes("read " + k + " 0 " + f + " 0", 0, "torn = 0");
            }
            for (int lane = 1; lane <= 2; lane++) EDGES.changes("read " + k + " " + lane + " 0 0", 0, "torn = 0");
        }
        EDGES.behind("tell " + Edges.CROWD);
        EDGES.still("read 0 0 0 0", 0);
        EDGES.behind("sheet 0 0 0");
        EDGES.still("read 0 0 0 0", 0);
    }

    /** "1 NULL (nothing)", ahead of CAST and INDEX. */
    private static void p42ReadNull() {
        EDGES.behind(Edges.BUSY);
        for (int lane = 0; lane <= 2; lane++) {
            for (int f : new int[] {-1, 0, 40}) EDGES.changes("read 2 " + lane + " " + f + " 1", 0, "torn = " + NULL);
            EDGES.changes("read 2 " + lane + " 0 13", 0, "torn = " + NULL);
        }
    }

    /** "3 CAST (another lane)", ahead of INDEX; a SHEET of no CELLS has a lane, too. */
    private static void p42ReadCast() {
        for (int lane = 0; lane <= 2; lane++) {
            for (int as = 0; as <= 2; as++) {
                for (int n = 0; n <= 3; n += 3) {
                    for (int f : new int[] {-1, 0, 3, 40}) {
                        EDGES.script("sheet 1 " + lane + " " + n + " = 1", "lay 1 1 1 = " + (n == 0 ? -12 : 1),
                            "read 1 " + as + " " + f + " 1 = " + (as == lane && n == 3 && f == 0 ? 1 : 0),
                            "torn = " + (as != lane ? CAST : n == 3 && f == 0 ? 0 : INDEX));
                    }
                }
            }
        }
    }

    /** "three CELLS each from CELL f on": the last f from which three are there, the first from which not. */
    private static void p42ReadIndex() {
        EDGES.behind("sheet 0 0 7", "lay 0 1 1", "lay 0 2 2", "lay 0 3 3", "lay 0 4 4", "lay 0 5 5", "lay 0 6 6");
        for (int f = 0; f <= 4; f++) {
            EDGES.answers("read 0 0 " + f + " 1", 1);
            EDGES.answers("read 0 0 " + f + " 2", f <= 1 ? 2 : 1);
            EDGES.answers("read 0 0 " + f + " 3", f <= 1 ? 2 : 1);
        }
        for (int f : new int[] {Integer.MIN_VALUE, Integer.MIN_VALUE + 2, -256, -3, -2, -1, 5, 6, 7, 8, 40, 256, 65536,
                Integer.MAX_VALUE - 2, Integer.MAX_VALUE}) {
            for (int n : new int[] {1, 2, 13}) {
                EDGES.changes("read 0 0 " + f + " " + n, 0, "torn = " + INDEX);
            }
        }
        EDGES.behind("sheet 0 2 40", "lay 0 38 1");
        EDGES.answers("read 0 2 37 1", 1);
        EDGES.changes("read 0 2 38 1", 0, "torn = " + INDEX);
        EDGES.changes("read 0 2 39 1", 0, "torn = " + INDEX);
        EDGES.changes("read 0 2 40 1", 0, "torn = " + INDEX);
        for (int cells = 0; cells <= 2; cells++) {
            EDGES.script("sheet 0 0 " + cells + " = 1", "read 0 0 0 1 = 0", "torn = 2", "rule 0 = 0");
            EDGES.script("sheet 0 0 " + cells + " = 1", "read 0 0 -1 1 = 0", "torn = 2", "rule 0 = 0");
        }
        // What is not whole is not cast: Y 0, an X of 99 are there, the HOUR is not.
        EDGES.script("sheet 0 0 2 = 1", "lay 0 0 99 = 1", "read 0 0 0 1 = 0", "torn = 2");
        EDGES.script("sheet 0 0 3 = 1", "read 0 0 0 1 = -20", "read 0 0 1 1 = 0", "torn = 2");
    }

    /** "What the machine refuses: those that were whole ahead came". */
    private static void p42ReadWhatIsWhole() {
        for (int n = 0; n <= 13; n++) {
            for (int cells = 9; cells <= 11; cells++) {
                int came = Math.min(n, 3);
                EDGES.script("sheet 0 0 " + cells + " = 1", "lay 0 1 1 = 1", "lay 0 4 1 = 1", "lay 0 7 1 = 1", "lay 0 0 7 = 1",
                    "lay 0 3 8 = 1", "lay 0 6 9 = 1", "read 0 0 0 " + n + " = " + came, "torn = " + (n > 3 ? INDEX : 0),
                    "rule 0 = " + came, "tub 0 1 = " + (n > 0 ? 7 : BAD), "tub 1 1 = " + (n > 1 ? 8 : BAD),
                    "tub 2 1 = " + (n > 2 ? 9 : BAD));
            }
        }
        // As by cast(): KIND tub, ESTATE 1, behind those that there are.
        EDGES.behind("tell coop 4 4 4 9;piano 4 4 4 9;coop 4 4 4 9;", "sheet 3 1 4", "lay 3 1 9", "lay 3 2 9", "lay 3 3 23",
            "sink 2");
        EDGES.changes("read 3 1 1 13", 1, "rule 0 = 3", "rule 3 = 19", "torn = 2", "tub 2 0 = 0", "tub 2 1 = 9",
            "tub 2 2 = 9", "tub 2 3 = 23", "tub 2 4 = 1", "tub 2 5 = 1");
        EDGES.changes("read 3 1 1 1", 1, "rule 0 = 3", "rule 3 = 19", "tub 2 0 = 0", "tub 2 1 = 9", "tub 2 2 = 9",
            "tub 2 3 = 23", "tub 2 4 = 1", "tub 2 5 = 1");
    }

    /** Three whole ones, the i-th of them with a number at or out of its bound. */
    private static String[] three(int cell, int v) {
        return new String[] {"sheet 0 2 9", "lay 0 1 1", "lay 0 4 1", "lay 0 7 1", "lay 0 " + cell + " " + v,
            "read 1 0 0 1"};
    }

    /** "-20 less i (0 on): the i-th, whole, is refused by cast() ..: then none came". */
    private static void p42ReadRefusedByBounds() {
        int[] least = {0, 1, 0};
        int[] most = {9, 9, 23};
        for (int cell = 0; cell <= 8; cell++) {
            for (int v : new int[] {least[cell % 3] - 1, most[cell % 3] + 1, Integer.MIN_VALUE, Integer.MAX_VALUE, 256}) {
                EDGES.behind(three(cell, v));
                EDGES.still("read 0 2 0 3", -20 - cell / 3);
                EDGES.still("read 0 2 0 13", -20 - cell / 3);
                EDGES.answers("read 0 2 0 " + cell / 3, cell / 3);
            }
            for (int v : new int[] {least[cell % 3], most[cell % 3]}) {
                EDGES.behind(three(cell, v));
                EDGES.answers("read 0 2 0 3", 3);
            }
        }
    }

    /** "(in whichever way)": the 5th TUB, from 0 to 4 there are. */
    private static void p42ReadRefusedByFull() {
        for (int tubs = 0; tubs <= 4; tubs++) {
            String[] calls = {"sheet 0 0 40", "tell " + Edges.CROWD, "sink " + tubs, "read 1 0 0 1"};
            for (int t = 0; t <= 12; t++) calls = Edges.and(calls, "lay 0 " + (3 * t + 1) + " 1");
            EDGES.behind(calls);
            int room = 4 - tubs;
            EDGES.answers("read 0 0 0 " + room, room);
            EDGES.still("read 0 0 0 " + (room + 1), -20 - room);
            EDGES.still("read 0 0 0 13", -20 - room);
            EDGES.still("read 0 0 37 1", -20);
            if (room > 0) EDGES.answers("read 0 0 36 2", 1);
        }
        // What cast() would call BAD where TUBS are FULL is refused as well.
        EDGES.behind("tell " + Edges.CROWD, "sheet 0 0 3");
        EDGES.still("read 0 0 0 1", -20);
        // A FAULT of the machine is no cast(): with 4 TUBS it is told as ever.
        EDGES.changes("read 0 0 1 1", 0, "torn = " + INDEX);
        EDGES.changes("read 0 1 0 1", 0, "torn = " + CAST);
        EDGES.changes("read 1 1 0 1", 0, "torn = " + NULL);
    }

    /** "the first met": a refused one ahead of another, and ahead of what the machine refuses. */
    private static void p42ReadTheFirstMet() {
        EDGES.behind(Edges.and(three(4, 0), "lay 0 0 10"));
        EDGES.still("read 0 2 0 3", -20);
        EDGES.still("read 0 2 0 13", -20);
        EDGES.still("read 0 2 3 13", -20);
        EDGES.behind(Edges.and(three(4, 0), "lay 0 7 0"));
        EDGES.still("read 0 2 0 13", -21);
        // The machine's ahead of one that would be refused: cells 7, 8 are there, 9 is not.
        EDGES.behind(Edges.and(three(7, 0), "read 0 2 0 1", "read 1 0 0 1"));
        EDGES.changes("read 0 2 7 2", 0, "torn = " + INDEX);
    }

    private static void p43Torn() {
        EDGES.behind();
        EDGES.still("torn", 0);
        EDGES.behind(Edges.BUSY);
        EDGES.still("torn", CAST);
        EDGES.script("torn = 0", "read 0 0 0 1 = 0", "torn = 1", "sheet 0 0 2 = 1", "torn = 1", "read 0 0 0 1 = 0",
            "torn = 2", "read 0 1 0 1 = 0", "torn = 3", "read 0 0 0 0 = 0", "torn = 0");
    }

    /** "The FAULT of the latest read() that answered 0 or more; 0 (one that is refused leaves it)." */
    private static void p43TornIsTheLatest() {
        EDGES.script("sheet 0 1 5 = 1", "lay 0 1 1 = 1", "read 0 0 0 1 = 0", "torn = 3", "read 0 1 2 1 = -20", "torn = 3",
            "read 4 1 0 1 = -1", "torn = 3", "read 0 3 0 1 = -1", "torn = 3", "read 0 1 0 14 = -1", "torn = 3",
            "read 0 1 0 -1 = -1", "torn = 3", "lay 1 0 0 = -11", "torn = 3", "lay 0 5 0 = -12", "torn = 3",
            "sheet 0 1 -1 = -14", "torn = 3", "sheet 1 0 0 = 1", "torn = 3", "tell @ = -10", "torn = 3", "tell ; = -10",
            "tell phase 1; = 1", "torn = 3", "keep 0 = 0", "back 0 = 0", "torn = 3", "read 0 1 0 2 = 1", "torn = 2",
            "read 0 1 2 1 = -20", "torn = 2", "sink 0 = 1", "torn = 2", "read 0 1 0 1 = 1", "torn = 0",
            "read 0 1 2 1 = -20", "torn = 0");
    }

    /** "How many: 0 SEEN, 1 IMAGES, 2 bytes on THE TAPE, 3 CELLS of SHEET 0 (NONE: nothing), 4 HOOKS .., 5 ROWS .. BAD." */
    private static void p44Count() {
        EDGES.behind();
        EDGES.bounds("count .", 0, 5);
        int[] first = {0, 0, 0, NONE, 0, 0};
        for (int what = 0; what <= 5; what++) EDGES.still("count " + what, first[what]);
        EDGES.behind(Edges.BUSY);
        EDGES.bounds("count .", 0, 5);
        int[] busy = {2, 2, 21, 7, 5, 2};
        for (int what = 0; what <= 5; what++) EDGES.still("count " + what, busy[what]);
    }

    private static void p44CountFromNoneToAll() {
        EDGES.script("cast 4 4 4 = 1", "see 0 0 0 = 1", "count 0 = 1", "see 0 0 0 = 2", "see 0 0 0 = 3", "see 0 0 0 = 4",
            "see 0 0 0 = 5", "see 0 0 0 = 6", "count 0 = 6", "see 0 0 0 = -3", "count 0 = 6", "forget 0 = 6", "count 0 = 0");
        EDGES.script("type " + Edges.blanks(160) + " = 160", "count 2 = 160", "feed 1 = -3", "count 2 = 160", "end 0 = 160",
            "count 2 = 0");
        EDGES.script("sheet 1 0 5 = 1", "sheet 2 0 5 = 1", "sheet 3 0 5 = 1", "count 3 = -4", "sheet 0 0 0 = 1",
            "count 3 = 0", "sheet 0 0 40 = 1", "count 3 = 40");
        EDGES.script("tell heir 1 1 1 0;heir 1 1 1 0; = 2", "count 4 = 0",
            "tell heir 1 1 1 9;heir 1 1 1 9;heir 1 1 1 9;heir 1 1 1 9; = 4", "count 4 = 36", "tell phase 0; = 1", "count 4 = 0");
        Play rows = new Play();
        for (int row = 0; row <= 9; row++) {
            EDGES.holds("ROWS whose CURRENT is not 2", rows.answer("count 5") == row);
            rows.answer("set " + row + " " + new int[] {0, 1, 3, 4}[row % 4]);
        }
        EDGES.holds("10 ROWS", rows.answer("count 5") == 10);
        EDGES.script("tell current 0 2;current 1 2;current 9 4; = 3", "count 5 = 1");
    }
}
