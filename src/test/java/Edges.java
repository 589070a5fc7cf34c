import java.util.Arrays;
import java.util.List;
import java.util.Map;

/** Compares what a call answers, and what it changes, with what is due: the edges of each promise. */
final class Edges {
    static final int BAD = FlotsamWill.BAD, STATE = FlotsamWill.STATE, FULL = FlotsamWill.FULL, NONE = FlotsamWill.NONE;

    /** A will in which nothing is as at first; TUB 0 comes ashore in HOUR 5 at X 2, TUB 1 at X 5. */
    static final String WILL = "tub 2 3 4 10;piano 5 4 4 40;heir 2 0 23 3;heir 6 4 12 1;"
        + "current 9 4;current 0 0;wind 4 1;wind 23 4;phase 5;";

    /**
     * That, and all else that an object keeps, none of it as at first: 2 TUBS, 2 HEIRS, who have one
     * each, 2 that are SEEN and so, 2 IMAGES, a TAPE of 21 bytes, 3 SHEETS, a FAULT of text() and of read().
     */
    static final String[] BUSY = {"tell " + WILL, "see 0 0 3", "see 1 2 15", "keep 0", "alter 0 1 3", "stand 1 3 2",
        "keep 1", "alter 0 4 11", "sheet 0 0 7", "lay 0 0 1", "lay 0 1 2", "lay 0 2 3", "sheet 1 1 4", "lay 1 1 9",
        "sheet 3 2 3", "lay 3 1 5", "read 1 0 0 1", "tell x", "forget 0", "see 0 24 13", "see 1 5 15",
        "type phase 3;heir 1 2 3 4;"};

    /** As many TUBS and HEIRS as there can be. */
    static final String CROWD = "tub1 2 3 4;bottle2 3 4 5;piano3 4 5 6;coop4 5 6 7;"
        + "heir1 2 3 4;heir2 3 4 5;heir3 4 5 6;heir4 5 6 7;";

    /** Numbers far out of all bounds; some would be within them by their lowest bits alone. */
    private static final int[] FAR = {Integer.MIN_VALUE, Integer.MIN_VALUE + 1, Integer.MAX_VALUE, -65535, 65537,
        -511, 513, 1 << 30};

    private final Check check;
    private String[] setup = {};
    private Map<String, Long> plain;
    private Map<String, Long> whole;

    Edges(String name) {
        check = new Check(name);
    }

    void finish() {
        check.finish();
    }

    static String[] and(String[] calls, String... more) {
        String[] all = Arrays.copyOf(calls, calls.length + more.length);
        System.arraycopy(more, 0, all, calls.length, more.length);
        return all;
    }

    static String blanks(int n) {
        return " ".repeat(n);
    }

    /** Each call from here on comes behind these alone, on a new object. */
    void behind(String... calls) {
        setup = calls;
        plain = null;
        whole = null;
    }

    void holds(String what, boolean it) {
        check.due(what, it ? 1 : 0, 1);
    }

    private String told(String call) {
        return (String.join(", ", setup) + ", " + call).replace(String.join(", ", BUSY), "BUSY");
    }

    /** What it answers; what it changes is left to others. */
    void answers(String call, long want) {
        check.due(told(call), new Play(setup).answer(call), want);
    }

    /** What it answers, and that it changes nothing: it only asks, it is refused, or all is so already. */
    void still(String call, long want) {
        answers(call, want);
        if (whole == null) whole = Sight.whole(setup);
        changed(call, Sight.changes(whole, Sight.whole(and(setup, call))), List.of());
    }

    /** What it answers, and all that it changes of what is told and kept: "tub 0 4 = 9". */
    void changes(String call, long want, String... changes) {
        answers(call, want);
        if (plain == null) plain = Sight.plain(setup);
        List<String> got = Sight.changes(plain, Sight.plain(and(setup, call)));
        // What a tape tells that was changed itself is a matter of scripts.
        if (call.matches("(feed|end|text)( .*)?")) got.removeIf(change -> change.startsWith("tape: "));
        changed(call, got, List.of(changes));
    }

    private void changed(String call, List<String> got, List<String> want) {
        String[] gotSorted = got.toArray(new String[0]);
        String[] wantSorted = want.toArray(new String[0]);
        Arrays.sort(gotSorted);
        Arrays.sort(wantSorted);
        holds(told(call) + " changes " + got + ", due is " + want, Arrays.equals(gotSorted, wantSorted));
    }

    /**
     * A number of a call, told as a dot, is BAD just outside its bounds and far outside, and is taken
     * at both bounds; what is just outside is seen to change nothing.
     */
    void bounds(String call, int least, int most) {
        still(call.replace(".", "" + (least - 1)), BAD);
        still(call.replace(".", "" + (most + 1)), BAD);
        for (int far : FAR) answers(call.replace(".", "" + far), BAD);
        for (int inside : new int[] {least, most}) {
            String taken = call.replace(".", "" + inside);
            holds(told(taken) + " is not BAD", new Play(setup).answer(taken) != BAD);
        }
    }

    /** A question of a fraction, its last number told as a dot: the numerator, then the denominator. */
    void fraction(String call, long above, long below) {
        still(call.replace(".", "0"), above);
        still(call.replace(".", "1"), below);
    }

    /** Calls to one new object, one behind another, each with its answer: "sink 0 = 4". */
    void script(String... calls) {
        Play play = new Play();
        for (String call : calls) {
            int at = call.lastIndexOf(" = ");
            long want = Long.parseLong(call.substring(at + 3));
            check.due(String.join(", ", calls) + ": " + call, play.answer(call.substring(0, at)), want);
        }
    }
}
