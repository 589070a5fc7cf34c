/** Promises 18 to 21: the day. */
public final class DayTest {
    private static final Check CHECK = new Check("DayTest");
    private static final int NONE = FlotsamWill.NONE, BAD = FlotsamWill.BAD;

    public static void main(String[] args) {
        p18Fate();
        p18WhoHooks();
        p18Lost();
        p19Where();
        p19Drift();
        p19Tide();
        p20Has();
        p21All();
        CHECK.finish();
    }

    private static void fates(String text, int way, int who, int over, int hooked) {
        FlotsamWill x = CHECK.told(text);
        CHECK.due("way of " + text, x.fate(0, 0), way);
        CHECK.due("who of " + text, x.fate(0, 1), who);
        CHECK.due("over of " + text, x.fate(0, 2), over);
        CHECK.due("hooked of " + text, x.fate(0, 3), hooked);
    }

    private static void p18Fate() {
        fates("tub 3 3 3 10;", 2, NONE, 5, NONE);
        fates("tub 3 4 3 10;heir 3 0 23 9;", 0, NONE, NONE, NONE);
        fates("tub 3 3 3 10;heir 3 0 23 0;", 1, 0, 5, 5);
        fates("tub 3 3 3 10;heir 5 7 9 2;", 1, 0, 5, 7);
        fates("tub 3 3 3 10;heir 5 7 9 1;", 2, NONE, 5, NONE);
        fates("tub 3 3 3 10;heir 3 0 4 0;", 2, NONE, 5, NONE);
        fates("tub 3 3 3 10;heir 3 0 5 0;", 1, 0, 5, 5);
        fates("tub 3 3 3 10;heir 3 23 23 0;", 1, 0, 5, 23);
        fates("tub 3 1 23 10;phase 1;heir 3 23 23 0;", 0, NONE, NONE, NONE);
        fates("tub 3 1 23 10;heir 3 23 23 0;", 1, 0, 23, 23);
        FlotsamWill x = CHECK.told("tub 3 3 3 10;");
        CHECK.due("fate -1", x.fate(-1, 0), BAD);
        CHECK.due("fate 1", x.fate(1, 0), BAD);
        CHECK.due("what -1", x.fate(0, -1), BAD);
        CHECK.due("what 4", x.fate(0, 4), BAD);
    }

    private static void p18WhoHooks() {
        fates("tub 3 3 3 1;heir 1 0 23 9;heir 4 0 23 9;", 1, 1, 5, 5);
        fates("tub 3 3 3 1;heir 2 0 23 9;heir 4 0 23 9;", 1, 0, 5, 5);
        fates("tub 3 3 3 1;heir 4 0 23 1;heir 2 0 23 1;", 1, 0, 5, 5);
        fates("tub 3 3 3 1;heir 9 5 23 9;heir 3 6 23 9;", 1, 0, 5, 5);
        fates("tub 3 3 3 1;heir 3 7 23 9;heir 9 6 23 9;", 1, 1, 5, 6);
        fates("tub 3 3 3 1;heir 9 0 23 5;heir 0 0 23 3;", 1, 1, 5, 5);
    }

    private static void p18Lost() {
        fates("tub 3 9 0 1;heir 3 0 23 9;", 3, NONE, 0, NONE);
        fates("tub 3 7 0 1;", 3, NONE, 2, NONE);
        fates("tub 3 6 0 1;", 0, NONE, NONE, NONE);
        fates("bottle 9 5 0 1;current 5 3;", 3, NONE, 0, NONE);
        fates("bottle 0 5 4 1;current 5 1;", 3, NONE, 4, NONE);
    }

    private static void places(String text, int n, int east, int y, int way) {
        FlotsamWill x = CHECK.told(text);
        CHECK.due("east behind " + n + " of " + text, x.where(0, n, 0), east);
        CHECK.due("y behind " + n + " of " + text, x.where(0, n, 1), y);
        CHECK.due("way behind " + n + " of " + text, x.where(0, n, 2), way);
    }

    private static void p19Where() {
        String text = "tub 3 3 3 10;heir 3 7 23 0;";
        int[] y = {3, 3, 3, 3, 2, 1, 0, 0, 0};
        int[] way = {0, 0, 0, 0, 0, 0, 2, 2, 1};
        for (int n = 0; n < y.length; n++) places(text, n, 13, y[n], way[n]);
        places(text, 24, 13, 0, 1);
        places("tub 3 9 0 1;", 24, 13, 10, 3);
        FlotsamWill x = CHECK.told(text);
        CHECK.due("where -1", x.where(-1, 0, 0), BAD);
        CHECK.due("where 1", x.where(1, 0, 0), BAD);
        CHECK.due("n -1", x.where(0, -1, 0), BAD);
        CHECK.due("n 25", x.where(0, 25, 0), BAD);
        CHECK.due("what -1", x.where(0, 0, -1), BAD);
        CHECK.due("what 3", x.where(0, 0, 3), BAD);
    }

    private static void p19Drift() {
        String[] kinds = {"tub", "bottle", "piano", "coop"};
        int[] windage = {1, 0, 2, 3};
        for (int k = 0; k < 4; k++) {
            places(kinds[k] + " 4 5 0 1;wind 0 1;", 1, 14, 6 - windage[k], 0);
            places(kinds[k] + " 4 5 0 1;wind 0 2;", 1, 14 + windage[k], 6, 0);
            places(kinds[k] + " 4 5 0 1;wind 0 3;", 1, 14, 6 + windage[k], 0);
            places(kinds[k] + " 4 5 0 1;wind 0 4;", 1, 14 - windage[k], 6, 0);
        }
        for (int v = 0; v <= 4; v++) places("bottle 4 5 0 1;current 5 " + v + ";", 1, 12 + v, 6, 0);
        // The ROW is the one in which the HOUR finds it.
        places("bottle 4 5 0 1;current 6 4;", 1, 14, 6, 0);
        places("bottle 4 5 0 1;current 6 4;", 2, 16, 7, 0);
        // ASHORE comes first, and holds X to the shore; what is LOST is told as it is.
        places("coop 9 1 0 1;wind 0 1;current 1 4;", 1, 19, 0, 2);
        places("bottle 9 1 3 1;current 1 4;", 4, 19, 0, 2);
        places("bottle 0 1 3 1;current 1 0;", 4, 10, 0, 2);
        places("bottle 9 5 0 1;current 5 4;", 1, 21, 6, 3);
        places("bottle 0 5 0 1;current 5 0;", 24, 8, 6, 3);
        places("coop 9 5 0 1;current 5 4;wind 0 2;", 24, 24, 6, 3);
        places("coop 4 9 0 1;wind 0 3;", 24, 14, 13, 3);
        places("coop 4 1 3 1;wind 3 1;", 24, 14, 0, 2);
    }

    private static void p19Tide() {
        for (int phase = 0; phase <= 5; phase++) {
            for (int hour = 0; hour <= 23; hour++) {
                int y = (hour + phase) % 6 < 3 ? 6 : 4;
                places("bottle 4 5 " + hour + " 1;phase " + phase + ";", hour + 1, 14, y, 0);
            }
        }
    }

    private static void p20Has() {
        FlotsamWill x = CHECK.told("bottle 1 1 3 5;bottle 8 1 3 20;bottle 2 1 4 40;bottle 5 9 3 9;"
            + "heir 1 0 23 1;heir 9 0 23 1;heir 5 0 23 0;");
        int[] estates = {45, 20, 0};
        int[] bits = {5, 2, 0};
        for (int i = 0; i < 3; i++) {
            CHECK.due("has " + i + " estates", x.has(i, 0), estates[i]);
            CHECK.due("has " + i + " bits", x.has(i, 1), bits[i]);
        }
        CHECK.due("has -1", x.has(-1, 0), BAD);
        CHECK.due("has 3", x.has(3, 0), BAD);
        CHECK.due("what -1", x.has(0, -1), BAD);
        CHECK.due("what 2", x.has(0, 2), BAD);
        CHECK.due("sink", x.sink(1), 4);
        CHECK.due("has 0 of one tub", x.has(0, 0), 5);
        CHECK.due("has 1 of one tub", x.has(1, 1), 0);
    }

    private static void p21All() {
        FlotsamWill x = CHECK.told("bottle 1 1 3 5;bottle 8 1 3 20;bottle 2 9 0 40;bottle 5 9 3 9;heir 1 0 23 1;");
        int[] want = {8, 1, 2, 4, 5};
        for (int what = 0; what <= 4; what++) CHECK.due("all " + what, x.all(what), want[what]);
        CHECK.due("all -1", x.all(-1), BAD);
        CHECK.due("all 5", x.all(5), BAD);
        CHECK.due("stand", x.stand(0, 3, 9), 1);
        CHECK.due("all hooked", x.all(1), 3);
        CHECK.due("all estates", x.all(4), 25);
        FlotsamWill none = new FlotsamWill();
        for (int what = 0; what <= 4; what++) CHECK.due("all of none " + what, none.all(what), 0);
    }
}
