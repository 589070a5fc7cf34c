/** Promises 11 to 17: what is changed. */
public final class ChangeTest {
    private static final Check CHECK = new Check("ChangeTest");

    public static void main(String[] args) {
        p11Alter();
        p12Stand();
        p13Set();
        p14Blow();
        p15Phase();
        p16Cast();
        p17Sink();
        CHECK.finish();
    }

    private static void p11Alter() {
        FlotsamWill x = CHECK.told("coop 9 9 23 99;piano 3 4 5 6;");
        int[] was = {2, 3, 4, 5, 6};
        int[] least = {0, 0, 1, 0, 1};
        int[] most = {3, 9, 9, 23, 99};
        for (int what = 0; what <= 4; what++) {
            String call = "alter 1 " + what + " ";
            CHECK.due(call + "below", x.alter(1, what, least[what] - 1), FlotsamWill.BAD);
            CHECK.due(call + "above", x.alter(1, what, most[what] + 1), FlotsamWill.BAD);
            CHECK.due(call + "is refused", x.tub(1, what), was[what]);
            CHECK.due(call + "least", x.alter(1, what, least[what]), was[what]);
            CHECK.due(call + "most", x.alter(1, what, most[what]), least[what]);
            CHECK.due(call + "holds", x.tub(1, what), most[what]);
        }
        CHECK.due("another tub is as it was", x.tub(0, 4), 99);
        CHECK.due("alter -1", x.alter(-1, 0, 1), FlotsamWill.BAD);
        CHECK.due("alter 2", x.alter(2, 0, 1), FlotsamWill.BAD);
        CHECK.due("what -1", x.alter(0, -1, 1), FlotsamWill.BAD);
        CHECK.due("what 5", x.alter(0, 5, 1), FlotsamWill.BAD);
    }

    private static void p12Stand() {
        FlotsamWill x = CHECK.told("heir 1 2 3 4;heir 5 6 7 8;");
        CHECK.due("place -1", x.stand(1, 0, -1), FlotsamWill.BAD);
        CHECK.due("place 10", x.stand(1, 0, 10), FlotsamWill.BAD);
        CHECK.due("place 0", x.stand(1, 0, 0), 5);
        CHECK.due("place 9", x.stand(1, 0, 9), 0);
        CHECK.due("from above until", x.stand(1, 1, 8), FlotsamWill.BAD);
        CHECK.due("from is as it was", x.heir(1, 1), 6);
        CHECK.due("from like until", x.stand(1, 1, 7), 6);
        CHECK.due("until below from", x.stand(1, 2, 6), FlotsamWill.BAD);
        CHECK.due("until like from", x.stand(1, 2, 7), 7);
        CHECK.due("from -1", x.stand(1, 1, -1), FlotsamWill.BAD);
        CHECK.due("from 0", x.stand(1, 1, 0), 7);
        CHECK.due("until 24", x.stand(1, 2, 24), FlotsamWill.BAD);
        CHECK.due("until 23", x.stand(1, 2, 23), 7);
        CHECK.due("from 24", x.stand(1, 1, 24), FlotsamWill.BAD);
        CHECK.due("hook -1", x.stand(1, 3, -1), FlotsamWill.BAD);
        CHECK.due("hook 10", x.stand(1, 3, 10), FlotsamWill.BAD);
        CHECK.due("hook 9", x.stand(1, 3, 9), 8);
        CHECK.due("hook 0", x.stand(1, 3, 0), 9);
        int[] want = {9, 0, 23, 0};
        for (int what = 0; what <= 3; what++) {
            CHECK.due("heir 1 " + what, x.heir(1, what), want[what]);
            CHECK.due("heir 0 " + what, x.heir(0, what), what + 1);
        }
        CHECK.due("stand -1", x.stand(-1, 0, 1), FlotsamWill.BAD);
        CHECK.due("stand 2", x.stand(2, 0, 1), FlotsamWill.BAD);
        CHECK.due("what -1", x.stand(0, -1, 1), FlotsamWill.BAD);
        CHECK.due("what 4", x.stand(0, 4, 1), FlotsamWill.BAD);
    }

    private static void p13Set() {
        FlotsamWill x = new FlotsamWill();
        CHECK.due("set 0 0", x.set(0, 0), 2);
        CHECK.due("set 9 4", x.set(9, 4), 2);
        CHECK.due("set 9 3", x.set(9, 3), 4);
        CHECK.due("set 9 5", x.set(9, 5), FlotsamWill.BAD);
        CHECK.due("set 9 -1", x.set(9, -1), FlotsamWill.BAD);
        CHECK.due("set -1 1", x.set(-1, 1), FlotsamWill.BAD);
        CHECK.due("set 10 1", x.set(10, 1), FlotsamWill.BAD);
        for (int row = 0; row <= 9; row++) {
            CHECK.due("current " + row, x.current(row), row == 0 ? 0 : row == 9 ? 3 : 2);
        }
    }

    private static void p14Blow() {
        FlotsamWill x = new FlotsamWill();
        CHECK.due("blow 0 1", x.blow(0, 1), 0);
        CHECK.due("blow 23 4", x.blow(23, 4), 0);
        CHECK.due("blow 0 0", x.blow(0, 0), 1);
        CHECK.due("blow 0 -1", x.blow(0, -1), FlotsamWill.BAD);
        CHECK.due("blow 0 5", x.blow(0, 5), FlotsamWill.BAD);
        CHECK.due("blow -1 1", x.blow(-1, 1), FlotsamWill.BAD);
        CHECK.due("blow 24 1", x.blow(24, 1), FlotsamWill.BAD);
        for (int hour = 0; hour <= 23; hour++) CHECK.due("wind " + hour, x.wind(hour), hour == 23 ? 4 : 0);
    }

    private static void p15Phase() {
        FlotsamWill x = new FlotsamWill();
        CHECK.due("phase 5", x.phase(5), 0);
        CHECK.due("phase -1", x.phase(-1), FlotsamWill.BAD);
        CHECK.due("phase 6", x.phase(6), FlotsamWill.BAD);
        CHECK.due("phase holds", x.rule(2), 5);
        CHECK.due("phase 0", x.phase(0), 5);
        CHECK.due("phase is 0", x.rule(2), 0);
    }

    private static void p16Cast() {
        FlotsamWill x = CHECK.told("coop 1 2 3 4;coop 1 2 3 4;");
        CHECK.due("sink", x.sink(1), 2);
        CHECK.due("cast", x.cast(9, 1, 23), 2);
        int[] want = {0, 9, 1, 23, 1, 1};
        for (int what = 0; what <= 5; what++) CHECK.due("tub 1 " + what, x.tub(1, what), want[what]);
        CHECK.due("x -1", x.cast(-1, 1, 1), FlotsamWill.BAD);
        CHECK.due("x 10", x.cast(10, 1, 1), FlotsamWill.BAD);
        CHECK.due("y 0", x.cast(1, 0, 1), FlotsamWill.BAD);
        CHECK.due("y 10", x.cast(1, 10, 1), FlotsamWill.BAD);
        CHECK.due("hour -1", x.cast(1, 1, -1), FlotsamWill.BAD);
        CHECK.due("hour 24", x.cast(1, 1, 24), FlotsamWill.BAD);
        CHECK.due("cast the third", x.cast(0, 9, 0), 3);
        CHECK.due("cast the fourth", x.cast(0, 9, 0), 4);
        CHECK.due("cast the fifth", x.cast(0, 9, 0), FlotsamWill.FULL);
        CHECK.due("cast the fifth, BAD", x.cast(0, 0, 0), FlotsamWill.BAD);
        CHECK.due("tubs", x.rule(0), 4);
    }

    private static void p17Sink() {
        FlotsamWill x = CHECK.told("tub 1 1 1 1;coop 2 2 2 2;piano 3 3 3 3;heir 1 1 1 1;");
        CHECK.due("sink -1", x.sink(-1), FlotsamWill.BAD);
        CHECK.due("sink 4", x.sink(4), FlotsamWill.BAD);
        CHECK.due("sink 3", x.sink(3), 3);
        CHECK.due("sink 2", x.sink(2), 3);
        CHECK.due("tub 1 is kept", x.tub(1, 0), 3);
        CHECK.due("tub 2 is gone", x.tub(2, 0), FlotsamWill.BAD);
        CHECK.due("estates", x.rule(3), 3);
        CHECK.due("heirs stay", x.rule(1), 1);
        CHECK.due("sink 0", x.sink(0), 2);
        CHECK.due("sink 0 again", x.sink(0), 0);
    }
}
