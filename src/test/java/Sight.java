import java.util.ArrayList;
import java.util.List;
import java.util.Map;
import java.util.TreeMap;

/**
 * All that can be asked of an object that some calls have led to, by names such as "tub 0 4". What
 * can be asked only by changing it (THE TAPE, IMAGES, SHEETS, SEEN) is asked of an object of its own.
 */
final class Sight {
    private final String[] calls;
    private final Map<String, Long> all = new TreeMap<>();

    private Sight(String... calls) {
        this.calls = calls;
    }

    /** What is told and kept, without what follows from it: a change of it can be named in a line or two. */
    static Map<String, Long> plain(String... calls) {
        Sight sight = new Sight(calls);
        Play play = new Play(calls);
        sight.sea(play, "");
        sight.askEach(play, "", "count", 5);
        sight.ask(play, "", "fault");
        sight.ask(play, "", "torn");
        for (int k = 0; k <= 1; k++) sight.image(k);
        for (int k = 0; k <= 3; k++) sight.sheet(k);
        sight.tape();
        return sight.all;
    }

    /** That and what follows from it. */
    static Map<String, Long> whole(String... calls) {
        Sight sight = new Sight(calls);
        sight.all.putAll(plain(calls));
        sight.day();
        sight.seen();
        return sight.all;
    }

    /** What differs between two sights, as the later one has it: "tub 0 4 = 9". */
    static List<String> changes(Map<String, Long> before, Map<String, Long> after) {
        List<String> changes = new ArrayList<>();
        for (Map.Entry<String, Long> one : after.entrySet()) {
            if (!one.getValue().equals(before.get(one.getKey()))) changes.add(one.getKey() + " = " + one.getValue());
        }
        return changes;
    }

    private void ask(Play play, String prefix, String call) {
        all.put(prefix + call, play.answer(call));
    }

    private void askEach(Play play, String prefix, String call, int most) {
        for (int n = 0; n <= most; n++) ask(play, prefix, call + " " + n);
    }

    private void sea(Play play, String prefix) {
        askEach(play, prefix, "rule", 4);
        for (int t = 0; t <= 3; t++) askEach(play, prefix, "tub " + t, 5);
        for (int i = 0; i <= 3; i++) askEach(play, prefix, "heir " + i, 3);
        askEach(play, prefix, "current", 9);
        askEach(play, prefix, "wind", 23);
    }

    private void tape() {
        Play play = new Play(calls);
        ask(play, "tape: ", "text");
        ask(play, "tape: ", "fault");
        sea(play, "tape: ");
    }

    private void image(int k) {
        Play play = new Play(calls);
        String prefix = "image " + k + ": ";
        ask(play, prefix, "back " + k);
        if (all.get(prefix + "back " + k) >= 0) sea(play, prefix);
    }

    /** Its lane, how many CELLS, and what is read from each on: 1000 X, 100 Y and the HOUR, or why it is not. */
    private void sheet(int k) {
        long lane = laneOf(k);
        all.put("sheet " + k + " lane", lane);
        Play layer = new Play(calls);
        long cells = 0;
        for (int c = 0; c <= 40; c++) cells += layer.answer("lay " + k + " " + c + " 0") == 1 ? 1 : 0;
        all.put("sheet " + k + " cells", cells);
        Play reader = new Play(calls);
        for (int c = 0; c < cells - 2; c++) all.put("sheet " + k + " from " + c, readFrom(reader, k, lane, c));
    }

    private long laneOf(int k) {
        for (int lane = 0; lane <= 2; lane++) {
            Play play = new Play(calls);
            if (play.answer("read " + k + " " + lane + " 0 1") != 0 || play.answer("torn") == 2) return lane;
        }
        return FlotsamWill.NONE;
    }

    private static long readFrom(Play play, int k, long lane, int cell) {
        play.answer("sink 0");
        long came = play.answer("read " + k + " " + lane + " " + cell + " 1");
        if (came != 1) return came;
        return 1000 * play.answer("tub 0 1") + 100 * play.answer("tub 0 2") + play.answer("tub 0 3");
    }

    private void day() {
        Play play = new Play(calls);
        for (int t = 0; t <= 3; t++) {
            askEach(play, "", "fate " + t, 3);
            for (int n = 0; n <= 24; n += 3) askEach(play, "", "where " + t + " " + n, 2);
        }
        for (int i = 0; i <= 3; i++) askEach(play, "", "has " + i, 1);
        askEach(play, "", "all", 4);
    }

    private void seen() {
        Play play = new Play(calls);
        for (long left = play.answer("count 0"); left >= 0; left--) {
            play.answer("forget " + left);
            askEach(play, "seen " + left + ": ", "kinds", 3);
            askEach(play, "seen " + left + ": ", "sets", 9);
            for (int t = 0; t <= 3; t++) ask(play, "seen " + left + ": ", "look " + t + " 1");
        }
    }
}
