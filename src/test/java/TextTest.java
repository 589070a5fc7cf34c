/** Promises 1 to 10: the text, what there is. */
public final class TextTest {
    private static final Check CHECK = new Check("TextTest");
    private static final String WILL =
        "tub 2 3 0 10;piano 5 4 2 40;bottle 7 2 3 9;coop 0 9 23 99;"
        + "heir 2 0 23 3;heir 6 4 12 1;current 3 4;current 0 0;wind 4 1;wind 23 4;phase 5;";

    public static void main(String[] args) {
        p1NewObject();
        p2Feed();
        p3End();
        p4FullTape();
        p4TextTellsAll();
        p4TextThatFails();
        p5Faults();
        p5FaultsOfBounds();
        p5FaultStays();
        p6Rule();
        p7Tub();
        p8Heir();
        p9Current();
        p10Wind();
        CHECK.finish();
    }

    private static void p1NewObject() {
        FlotsamWill x = new FlotsamWill();
        for (int what = 0; what <= 4; what++) CHECK.due("new rule " + what, x.rule(what), 0);
        for (int row = 0; row <= 9; row++) CHECK.due("new current " + row, x.current(row), 2);
        for (int hour = 0; hour <= 23; hour++) CHECK.due("new wind " + hour, x.wind(hour), 0);
        for (int k = 0; k <= 3; k++) CHECK.due("new sheet " + k, x.lay(k, 0, 0), -11);
        for (int k = 0; k <= 1; k++) CHECK.due("new image " + k, x.back(k), FlotsamWill.STATE);
        CHECK.due("new tub", x.tub(0, 0), FlotsamWill.BAD);
        CHECK.due("new heir", x.heir(0, 0), FlotsamWill.BAD);
        CHECK.due("new fault", x.fault(), 0);
        CHECK.due("new torn", x.torn(), 0);
        CHECK.due("new seen", x.count(0), 0);
        CHECK.due("new images", x.count(1), 0);
        CHECK.due("new tape", x.count(2), 0);
        CHECK.due("new sheet 0", x.count(3), FlotsamWill.NONE);
        CHECK.due("BAD", FlotsamWill.BAD, -1);
        CHECK.due("STATE", FlotsamWill.STATE, -2);
        CHECK.due("FULL", FlotsamWill.FULL, -3);
        CHECK.due("NONE", FlotsamWill.NONE, -4);
    }

    private static void p2Feed() {
        FlotsamWill x = new FlotsamWill();
        CHECK.due("feed -1", x.feed(-1), FlotsamWill.BAD);
        CHECK.due("feed 128", x.feed(128), FlotsamWill.BAD);
        CHECK.due("feed 0", x.feed(0), 1);
        CHECK.due("feed 127", x.feed(127), 2);
        for (int n = 3; n <= 160; n++) CHECK.due("feed the " + n + "th", x.feed(' '), n);
        CHECK.due("feed the 161st", x.feed(' '), FlotsamWill.FULL);
        CHECK.due("feed 128 to a full tape", x.feed(128), FlotsamWill.BAD);
        CHECK.due("a full tape", x.count(2), 160);
        CHECK.due("its first byte is kept", x.text(), -10);
    }

    private static void p3End() {
        FlotsamWill x = new FlotsamWill();
        CHECK.due("end 0 of nothing", x.end(0), 0);
        CHECK.due("end 1 of nothing", x.end(1), FlotsamWill.BAD);
        CHECK.feed(x, "phase 3;@@");
        CHECK.due("end -1", x.end(-1), FlotsamWill.BAD);
        CHECK.due("end 11", x.end(11), FlotsamWill.BAD);
        CHECK.due("end 10", x.end(10), 10);
        CHECK.due("end 8", x.end(8), 10);
        CHECK.due("bytes", x.count(2), 8);
        CHECK.due("end 9", x.end(9), FlotsamWill.BAD);
        CHECK.due("feed behind it", x.feed(' '), 9);
        CHECK.due("text", x.text(), 1);
        CHECK.due("phase", x.rule(2), 3);
        CHECK.feed(x, "phase 5555;");
        CHECK.due("end within a number", x.end(7), 11);
        CHECK.due("bytes that are gone are not read", x.text(), -17);
        CHECK.feed(x, "        ");
        CHECK.due("end within blanks", x.end(3), 8);
        CHECK.due("blanks that are gone are not read", x.text(), 0);
    }

    private static void p4FullTape() {
        FlotsamWill x = new FlotsamWill();
        CHECK.feed(x, "phase 4;");
        for (int n = 9; n <= 160; n++) CHECK.due("feed", x.feed(' '), n);
        CHECK.due("blanks to the end", x.text(), 1);
        CHECK.due("phase", x.rule(2), 4);
        for (int n = 1; n <= 160; n++) CHECK.due("feed", x.feed('t'), n);
        CHECK.due("a name to the end", x.text(), -10);
        CHECK.due("begins no line", x.fault(), 2);
        for (int n = 1; n <= 160; n++) CHECK.due("feed", x.feed('1'), n);
        CHECK.due("a number to the end", x.text(), -10);
        CHECK.due("is too long", x.fault(), 1);
        for (int n = 1; n <= 155; n++) CHECK.due("feed", x.feed(' '), n);
        CHECK.feed(x, "phase");
        CHECK.due("a line that is cut off", x.text(), -170);
        CHECK.due("phase", x.rule(2), 4);
    }

    private static void p4TextTellsAll() {
        FlotsamWill x = CHECK.told(WILL);
        CHECK.due("tape is empty", x.count(2), 0);
        CHECK.due("sheet", x.sheet(0, 1, 7), 1);
        CHECK.due("keep", x.keep(0), 0);
        CHECK.due("keep", x.keep(1), 0);
        CHECK.due("see", x.see(0, 0, 12), 1);
        CHECK.tell(x, "heir 1 2 3 4;");
        CHECK.due("tubs that no line tells", x.rule(0), 0);
        CHECK.due("heirs", x.rule(1), 1);
        CHECK.due("phase that no line tells", x.rule(2), 0);
        CHECK.due("winds that no line tells", x.rule(4), 0);
        CHECK.due("currents that no line tells", x.count(5), 0);
        CHECK.due("nothing is seen", x.count(0), 0);
        CHECK.due("images are gone", x.count(1), 0);
        CHECK.due("image 0 is gone", x.back(0), FlotsamWill.STATE);
        CHECK.due("image 1 is gone", x.back(1), FlotsamWill.STATE);
        CHECK.due("sheets stay", x.count(3), 7);
        CHECK.tell(x, "current 3 1;wind 4 2;wind 0 1;phase 2;heir 1 2 3 4;heir 1 2 3 4;");
        CHECK.due("what another text told may be told again", x.current(3), 1);
        CHECK.due("winds", x.rule(4), 2);
        CHECK.due("hooks", x.count(4), 8);
        CHECK.tell(x, "heir 1 2 3 4;");
        CHECK.due("a wind of HOUR 0 that no line tells", x.wind(0), 0);
        CHECK.due("hooks of one", x.count(4), 4);
        CHECK.tell(x, "");
        CHECK.due("no heirs by an empty text", x.rule(1), 0);
    }

    private static void p4TextThatFails() {
        FlotsamWill x = CHECK.told(WILL);
        CHECK.due("keep", x.keep(0), 0);
        CHECK.due("see", x.see(0, 0, 12), 1);
        CHECK.due("a text that fails late", CHECK.put(x, "tub 1 1 1 1;phase 1;wind 1 1;heir 9 9 9 x"), -10 - 40);
        CHECK.due("tape is empty", x.count(2), 0);
        CHECK.due("tubs stay", x.rule(0), 4);
        CHECK.due("a tub stays", x.tub(0, 4), 10);
        CHECK.due("heirs stay", x.rule(1), 2);
        CHECK.due("phase stays", x.rule(2), 5);
        CHECK.due("winds stay", x.rule(4), 2);
        CHECK.due("currents stay", x.count(5), 2);
        CHECK.due("seen stays", x.count(0), 1);
        CHECK.due("image stays", x.count(1), 1);
    }

    private static void faulty(String text, int place, int fault) {
        FlotsamWill x = new FlotsamWill();
        CHECK.due("text of \"" + text + "\"", CHECK.put(x, text), -10 - place);
        CHECK.due("fault of \"" + text + "\"", x.fault(), fault);
    }

    private static void p5Faults() {
        for (String good : new String[] {"", "   ", "phase5;", "  phase  05 ;  ", "tub0 1 0 1;coop 09 09 23 99;",
                "heir 9 23 23 9;heir0 0 0 0;", "current 0 0;current9 4;", "wind 0 0;wind 23 4;"}) {
            CHECK.told(good);
        }
        faulty("phase @", 6, 1);
        faulty("Phase 1;", 0, 1);
        faulty("phase 1;\n", 8, 1);
        faulty("phase 001;", 6, 1);
        faulty("tub 1 1 1 123;", 10, 1);
        faulty("tub 1 1 1 1@", 11, 1);
        faulty("  123", 2, 1);
        faulty("phase-1;", 5, 1);
        faulty("phase 5", 7, 2);
        faulty("phase 5  ", 9, 2);
        faulty("phase", 5, 2);
        faulty(" ;", 1, 2);
        faulty("5", 0, 2);
        faulty("boat 1 @", 0, 2);
        faulty("tubs 1 1 1 1;", 0, 2);
        faulty("tu 1 1 1 1;", 0, 2);
        faulty("bub 1 1 1 1;", 0, 2);
        faulty("tubz 1 1 1 1;", 0, 2);
        faulty("zephyr;", 0, 2);
        faulty("wint 1 1;", 0, 2);
        faulty("tub tub", 4, 2);
        faulty("tub 1 1 1;", 9, 2);
        faulty("tub 1 1 1 1 1;", 12, 2);
        faulty("tub 1 1 1 1 tub", 12, 2);
        faulty("heir 1 1 1;", 10, 2);
        faulty("tub 10 @", 4, 3);
        faulty("phase 1;phase @", 8, 4);
        faulty("phase 0;phase 0;", 8, 4);
        faulty("current 1 2;current 01 @", 20, 4);
        faulty("wind 1 0;wind 01 @", 14, 4);
        faulty("current 1 2;current 10 1;", 20, 3);
        faulty("tub1 1 1 1;tub1 1 1 1;coop1 1 1 1;tub1 1 1 1;bottle @", 45, 5);
        faulty("heir1 1 1 1;heir1 1 1 1;heir1 1 1 1;heir1 1 1 1; heir @", 49, 5);
    }

    private static void p5FaultsOfBounds() {
        faulty("tub 10 1 1 1;", 4, 3);
        faulty("bottle 1 0 1 1;", 9, 3);
        faulty("piano 1 10 1 1;", 8, 3);
        faulty("coop 1 1 24 1;", 9, 3);
        faulty("tub 1 1 1 0;", 10, 3);
        faulty("heir 10 1 1 1;", 5, 3);
        faulty("heir 1 24 1 1;", 7, 3);
        faulty("heir 1 5 4 1;", 9, 3);
        faulty("heir 1 5 24 1;", 9, 3);
        faulty("heir 1 5 5 10;", 11, 3);
        faulty("current 10 1;", 8, 3);
        faulty("current 1 5;", 10, 3);
        faulty("wind 24 1;", 5, 3);
        faulty("wind 1 5;", 7, 3);
        faulty("phase 6;", 6, 3);
    }

    private static void p5FaultStays() {
        FlotsamWill x = new FlotsamWill();
        CHECK.put(x, "phase 6;");
        CHECK.feed(x, "@");
        CHECK.due("fault of the latest text", x.fault(), 3);
        CHECK.due("text", x.text(), -10);
        CHECK.due("fault", x.fault(), 1);
        CHECK.due("text", x.text(), 0);
        CHECK.due("no fault", x.fault(), 0);
    }

    private static void p6Rule() {
        FlotsamWill x = CHECK.told(WILL);
        int[] want = {4, 2, 5, 158, 2};
        for (int what = 0; what <= 4; what++) CHECK.due("rule " + what, x.rule(what), want[what]);
        CHECK.due("rule -1", x.rule(-1), FlotsamWill.BAD);
        CHECK.due("rule 5", x.rule(5), FlotsamWill.BAD);
        CHECK.tell(x, "wind 3 0;wind 4 2;wind 0 3;wind 23 4;");
        CHECK.due("an HOUR told to have none has no WIND", x.rule(4), 3);
    }

    private static void p7Tub() {
        FlotsamWill x = CHECK.told(WILL);
        int[][] want = {{0, 2, 3, 0, 10, 1}, {2, 5, 4, 2, 40, 2}, {1, 7, 2, 3, 9, 0}, {3, 0, 9, 23, 99, 3}};
        for (int t = 0; t < 4; t++) {
            for (int what = 0; what <= 5; what++) {
                CHECK.due("tub " + t + " " + what, x.tub(t, what), want[t][what]);
            }
        }
        CHECK.due("tub -1", x.tub(-1, 0), FlotsamWill.BAD);
        CHECK.due("tub 4", x.tub(4, 0), FlotsamWill.BAD);
        CHECK.due("what -1", x.tub(0, -1), FlotsamWill.BAD);
        CHECK.due("what 6", x.tub(0, 6), FlotsamWill.BAD);
    }

    private static void p8Heir() {
        FlotsamWill x = CHECK.told(WILL);
        int[][] want = {{2, 0, 23, 3}, {6, 4, 12, 1}};
        for (int i = 0; i < 2; i++) {
            for (int what = 0; what <= 3; what++) {
                CHECK.due("heir " + i + " " + what, x.heir(i, what), want[i][what]);
            }
        }
        CHECK.due("heir -1", x.heir(-1, 0), FlotsamWill.BAD);
        CHECK.due("heir 2", x.heir(2, 0), FlotsamWill.BAD);
        CHECK.due("what -1", x.heir(0, -1), FlotsamWill.BAD);
        CHECK.due("what 4", x.heir(0, 4), FlotsamWill.BAD);
    }

    private static void p9Current() {
        FlotsamWill x = CHECK.told(WILL);
        int[] want = {0, 2, 2, 4, 2, 2, 2, 2, 2, 2};
        for (int row = 0; row <= 9; row++) CHECK.due("current " + row, x.current(row), want[row]);
        CHECK.due("current -1", x.current(-1), FlotsamWill.BAD);
        CHECK.due("current 10", x.current(10), FlotsamWill.BAD);
    }

    private static void p10Wind() {
        FlotsamWill x = CHECK.told(WILL);
        for (int hour = 0; hour <= 23; hour++) {
            CHECK.due("wind " + hour, x.wind(hour), hour == 4 ? 1 : hour == 23 ? 4 : 0);
        }
        CHECK.due("wind -1", x.wind(-1), FlotsamWill.BAD);
        CHECK.due("wind 24", x.wind(24), FlotsamWill.BAD);
    }
}
