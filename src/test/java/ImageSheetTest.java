/** Promises 38 to 44: images, sheets. */
public final class ImageSheetTest {
    private static final Check CHECK = new Check("ImageSheetTest");
    private static final int NONE = FlotsamWill.NONE, BAD = FlotsamWill.BAD, STATE = FlotsamWill.STATE;

    public static void main(String[] args) {
        p38Keep();
        p39Back();
        p39BackOfAll();
        p40Sheet();
        p41Lay();
        p42Read();
        p42ReadOfFaults();
        p42ReadRefused();
        p43Torn();
        p44Count();
        CHECK.finish();
    }

    private static void p38Keep() {
        FlotsamWill x = CHECK.told("tub 1 2 3 4;");
        CHECK.due("keep 1", x.keep(1), 0);
        CHECK.due("images", x.count(1), 1);
        CHECK.due("image 0 is none yet", x.back(0), STATE);
        CHECK.due("keep 0", x.keep(0), 0);
        CHECK.due("keep 0 again", x.keep(0), 1);
        CHECK.due("images", x.count(1), 2);
        CHECK.due("keep -1", x.keep(-1), BAD);
        CHECK.due("keep 2", x.keep(2), BAD);
        CHECK.due("alter", x.alter(0, 4, 50), 4);
        CHECK.due("keep 0 anew", x.keep(0), 1);
        CHECK.due("back 1", x.back(1), 4);
        CHECK.due("back 0", x.back(0), 50);
    }

    private static void p39Back() {
        FlotsamWill x = CHECK.told("tub 1 2 3 4;coop 5 6 7 8;heir 1 2 3 4;current 1 0;wind 2 3;phase 4;");
        CHECK.due("back -1", x.back(-1), BAD);
        CHECK.due("back 2", x.back(2), BAD);
        CHECK.due("back 0", x.back(0), STATE);
        CHECK.due("keep", x.keep(0), 0);
        CHECK.due("see", x.see(1, 0, 15), 1);
        CHECK.due("sheet", x.sheet(0, 0, 3), 1);
        CHECK.due("sink", x.sink(0), 2);
        CHECK.due("cast", x.cast(9, 9, 23), 1);
        CHECK.due("stand", x.stand(0, 0, 9), 1);
        CHECK.due("set", x.set(1, 4), 0);
        CHECK.due("set", x.set(2, 4), 2);
        CHECK.due("blow", x.blow(2, 1), 3);
        CHECK.due("blow", x.blow(3, 1), 0);
        CHECK.due("phase", x.phase(1), 4);
        CHECK.due("back", x.back(0), 12);
        int[][] tubs = {{0, 1, 2, 3, 4}, {3, 5, 6, 7, 8}};
        for (int what = 0; what <= 4; what++) {
            for (int t = 0; t <= 1; t++) CHECK.due("tub", x.tub(t, what), tubs[t][what]);
        }
        for (int what = 0; what <= 3; what++) CHECK.due("heir", x.heir(0, what), what + 1);
        CHECK.due("current 1", x.current(1), 0);
        CHECK.due("current 2", x.current(2), 2);
        CHECK.due("wind 2", x.wind(2), 3);
        CHECK.due("wind 3", x.wind(3), 0);
        CHECK.due("phase", x.rule(2), 4);
        CHECK.due("seen stays", x.count(0), 1);
        CHECK.due("sheets stay", x.count(3), 3);
        CHECK.due("the image stays", x.count(1), 1);
        CHECK.due("alter", x.alter(0, 4, 99), 4);
        CHECK.due("back again", x.back(0), 12);
    }

    private static void p39BackOfAll() {
        FlotsamWill x = CHECK.told("tub 1 1 1 1;tub 2 2 2 2;tub 3 3 3 3;tub 4 4 4 4;"
            + "heir 1 1 1 1;heir 2 2 2 2;heir 3 3 3 3;heir 4 4 4 4;");
        CHECK.due("keep", x.keep(1), 0);
        for (int n = 0; n < 4; n++) {
            for (int what = 1; what <= 4; what++) CHECK.due("alter", x.alter(n, what, 9), n + 1);
            for (int what = 3; what >= 0; what--) CHECK.due("stand", x.stand(n, what, what == 1 ? 0 : 9), n + 1);
        }
        CHECK.due("back", x.back(1), 10);
        for (int n = 0; n < 4; n++) {
            for (int what = 1; what <= 4; what++) CHECK.due("tub", x.tub(n, what), n + 1);
            for (int what = 0; what <= 3; what++) CHECK.due("heir", x.heir(n, what), n + 1);
        }
    }

    private static void p40Sheet() {
        FlotsamWill x = new FlotsamWill();
        CHECK.due("sheet -1", x.sheet(-1, 0, 1), BAD);
        CHECK.due("sheet 4", x.sheet(4, 0, 1), BAD);
        CHECK.due("lane -1", x.sheet(0, -1, 1), BAD);
        CHECK.due("lane 3", x.sheet(0, 3, 1), BAD);
        CHECK.due("n 41", x.sheet(0, 0, 41), BAD);
        CHECK.due("n -1", x.sheet(0, 0, -1), -14);
        CHECK.due("n least", x.sheet(0, 0, Integer.MIN_VALUE), -14);
        CHECK.due("sheet -1 of -1", x.sheet(-1, 0, -1), BAD);
        CHECK.due("lane 3 of -1", x.sheet(0, 3, -1), BAD);
        CHECK.due("nothing still", x.count(3), NONE);
        CHECK.due("n 0", x.sheet(0, 0, 0), 1);
        CHECK.due("0 cells", x.count(3), 0);
        CHECK.due("no cell 0", x.lay(0, 0, 1), -12);
        CHECK.due("n 40", x.sheet(0, 2, 40), 1);
        CHECK.due("40 cells", x.count(3), 40);
        CHECK.due("cell 39", x.lay(0, 39, 1), 1);
        CHECK.due("refused", x.sheet(0, 1, -1), -14);
        CHECK.due("40 cells still", x.count(3), 40);
        for (int c = 0; c < 3; c++) CHECK.due("lay", x.lay(0, c, c + 1), 1);
        CHECK.due("read", x.read(0, 2, 0, 1), 1);
        CHECK.due("a new row", x.sheet(0, 2, 40), 1);
        CHECK.due("its cells are 0, and Y 0 is refused", x.read(0, 2, 0, 1), -20);
        CHECK.due("Y", x.lay(0, 1, 5), 1);
        CHECK.due("with its Y it is not", x.read(0, 2, 0, 1), 1);
        CHECK.due("X is 0", x.tub(1, 1), 0);
        CHECK.due("HOUR is 0", x.tub(1, 3), 0);
        CHECK.due("sheet 3", x.sheet(3, 1, 1), 1);
        CHECK.due("sheet 3 has a cell", x.lay(3, 0, 1), 1);
        CHECK.due("sheet 2 has nothing", x.lay(2, 0, 1), -11);
    }

    private static void p41Lay() {
        FlotsamWill x = new FlotsamWill();
        CHECK.due("sheet -1", x.lay(-1, 0, 1), BAD);
        CHECK.due("sheet 4", x.lay(4, 0, 1), BAD);
        CHECK.due("nothing", x.lay(0, 0, 1), -11);
        CHECK.due("nothing, -1", x.lay(0, -1, 1), -11);
        for (int lane = 0; lane <= 2; lane++) {
            CHECK.due("sheet", x.sheet(lane, lane, 3), 1);
            CHECK.due("cell -1", x.lay(lane, -1, 1), -12);
            CHECK.due("cell 3", x.lay(lane, 3, 1), -12);
            CHECK.due("cell least", x.lay(lane, Integer.MIN_VALUE, 1), -12);
            CHECK.due("cell most", x.lay(lane, Integer.MAX_VALUE, 1), -12);
        }
        int[] wide = {256, 65536, 256};
        for (int lane = 0; lane <= 1; lane++) {
            CHECK.due("X", x.lay(lane, 0, 3 + wide[lane]), 1);
            CHECK.due("Y", x.lay(lane, 1, 4 - wide[lane]), 1);
            CHECK.due("HOUR", x.lay(lane, 2, 5 + 7 * wide[lane]), 1);
            CHECK.due("the lowest bits are read", x.read(lane, lane, 0, 1), 1);
            CHECK.due("X", x.tub(lane, 1), 3);
            CHECK.due("Y", x.tub(lane, 2), 4);
            CHECK.due("HOUR", x.tub(lane, 3), 5);
        }
        CHECK.due("X of ints", x.lay(2, 0, 3 + 65536), 1);
        CHECK.due("Y", x.lay(2, 1, 4), 1);
        CHECK.due("ints keep all", x.read(2, 2, 0, 1), -20);
        CHECK.due("X of shorts", x.lay(1, 0, 3 + 256), 1);
        CHECK.due("shorts keep more than bytes", x.read(1, 1, 0, 1), -20);
        CHECK.due("X of bytes", x.lay(0, 0, 255), 1);
        CHECK.due("bytes keep no more", x.read(0, 0, 0, 1), -20);
    }

    /** Sheet 0 of a lane with so many tubs, the t-th at X t, Y t + 1, HOUR t. */
    private static FlotsamWill laid(int lane, int tubs) {
        FlotsamWill x = new FlotsamWill();
        CHECK.due("sheet", x.sheet(0, lane, 3 * tubs), 1);
        for (int t = 0; t < tubs; t++) {
            CHECK.due("lay", x.lay(0, 3 * t, t), 1);
            CHECK.due("lay", x.lay(0, 3 * t + 1, t + 1), 1);
            CHECK.due("lay", x.lay(0, 3 * t + 2, t), 1);
        }
        return x;
    }

    private static void p42Read() {
        for (int lane = 0; lane <= 2; lane++) {
            FlotsamWill x = laid(lane, 5);
            CHECK.due("read 3 from cell 3", x.read(0, lane, 3, 3), 3);
            for (int t = 0; t < 3; t++) {
                int[] want = {0, t + 1, t + 2, t + 1, 1};
                for (int what = 0; what <= 4; what++) CHECK.due("tub " + t, x.tub(t, what), want[what]);
            }
            CHECK.due("read the fourth", x.read(0, lane, 12, 1), 1);
            CHECK.due("tubs", x.rule(0), 4);
            CHECK.due("cells need not begin at a third", laid(lane, 2).read(0, lane, 2, 1), 1);
            CHECK.due("sheet -1", x.read(-1, lane, 0, 1), BAD);
            CHECK.due("sheet 4", x.read(4, lane, 0, 1), BAD);
            CHECK.due("lane -1", x.read(0, -1, 0, 1), BAD);
            CHECK.due("lane 3", x.read(0, 3, 0, 1), BAD);
            CHECK.due("n -1", x.read(0, lane, 0, -1), BAD);
            CHECK.due("n 14", x.read(0, lane, 0, 14), BAD);
            CHECK.due("n 14 of nothing", x.read(1, lane, 0, 14), BAD);
        }
    }

    private static void reads(FlotsamWill x, int k, int lane, int f, int n, int came, int fault) {
        String call = "read " + k + " " + lane + " " + f + " " + n;
        int before = x.rule(0);
        CHECK.due(call, x.read(k, lane, f, n), came);
        CHECK.due(call + ", torn", x.torn(), fault);
        CHECK.due(call + ", tubs", x.rule(0), before + Math.max(0, came));
    }

    private static void p42ReadOfFaults() {
        FlotsamWill x = laid(1, 2);
        reads(x, 1, 1, 0, 1, 0, 1);
        reads(x, 1, 1, 0, 0, 0, 0);
        reads(x, 0, 0, 0, 1, 0, 3);
        reads(x, 0, 2, -1, 1, 0, 3);
        reads(x, 0, 2, 0, 0, 0, 0);
        reads(x, 0, 1, -1, 2, 0, 2);
        reads(x, 0, 1, -3, 2, 0, 2);
        reads(x, 0, 1, -1, 0, 0, 0);
        reads(x, 0, 1, 4, 1, 0, 2);
        reads(x, 0, 1, 5, 1, 0, 2);
        reads(x, 0, 1, 6, 1, 0, 2);
        reads(x, 0, 1, Integer.MAX_VALUE, 13, 0, 2);
        reads(x, 0, 1, Integer.MIN_VALUE, 13, 0, 2);
        reads(x, 0, 1, 3, 2, 1, 2);
        reads(x, 0, 1, 0, 13, 2, 2);
        CHECK.due("nothing, whatever its lane", x.read(3, 2, -1, 1), 0);
        CHECK.due("is NULL", x.torn(), 1);
        // A cell that cast() would refuse is not looked at as long as its three are not whole.
        x = laid(0, 2);
        CHECK.due("lay", x.lay(0, 4, 99), 1);
        reads(x, 0, 0, 4, 1, 0, 2);
    }

    private static void p42ReadRefused() {
        FlotsamWill x = laid(2, 5);
        reads(x, 0, 2, 6, 9, 3, 2);
        CHECK.due("cast", x.sink(1), 3);
        reads(x, 0, 2, 0, 4, -23, 2);
        reads(x, 0, 2, 0, 3, 3, 0);
        reads(x, 0, 2, 0, 1, -20, 0);
        CHECK.due("sink", x.sink(0), 4);
        reads(x, 0, 2, 0, 5, -24, 0);
        int[][] bad = {{3, -1}, {3, 10}, {4, 0}, {4, 10}, {5, -1}, {5, 24}};
        for (int[] one : bad) {
            FlotsamWill y = laid(2, 3);
            CHECK.due("lay", y.lay(0, one[0], one[1]), 1);
            reads(y, 0, 2, 0, 3, -21, 0);
            reads(y, 0, 2, 0, 1, 1, 0);
            CHECK.due("tub 0 came", y.tub(0, 2), 1);
        }
    }

    private static void p43Torn() {
        FlotsamWill x = laid(2, 2);
        CHECK.due("torn at first", x.torn(), 0);
        CHECK.due("read", x.read(0, 2, 3, 2), 1);
        CHECK.due("INDEX", x.torn(), 2);
        CHECK.due("BAD", x.read(9, 2, 3, 2), BAD);
        CHECK.due("BAD leaves it", x.torn(), 2);
        CHECK.due("lay", x.lay(0, 0, 99), 1);
        CHECK.due("refused", x.read(0, 2, 0, 1), -20);
        CHECK.due("refused leaves it", x.torn(), 2);
        CHECK.due("lay has its own", x.lay(1, 0, 0), -11);
        CHECK.due("lay leaves it", x.torn(), 2);
        CHECK.due("read", x.read(0, 1, 0, 1), 0);
        CHECK.due("CAST", x.torn(), 3);
        CHECK.tell(x, "");
        CHECK.due("text leaves it", x.torn(), 3);
        CHECK.due("read one", x.read(0, 2, 3, 1), 1);
        CHECK.due("no FAULT", x.torn(), 0);
    }

    private static void p44Count() {
        FlotsamWill x = CHECK.told("tub 1 2 3 4;heir 1 2 3 4;heir 5 6 7 9;current 1 0;current 2 2;current 0 4;");
        CHECK.due("see", x.see(0, 0, 11), 1);
        CHECK.due("see", x.see(0, 0, 11), 2);
        CHECK.due("keep", x.keep(1), 0);
        CHECK.feed(x, "abc");
        CHECK.due("sheet", x.sheet(1, 0, 9), 1);
        int[] want = {2, 1, 3, NONE, 13, 2};
        for (int what = 0; what <= 5; what++) CHECK.due("count " + what, x.count(what), want[what]);
        CHECK.due("sheet", x.sheet(0, 0, 9), 1);
        CHECK.due("cells", x.count(3), 9);
        CHECK.due("count -1", x.count(-1), BAD);
        CHECK.due("count 6", x.count(6), BAD);
    }
}
