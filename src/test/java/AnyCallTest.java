import java.lang.reflect.Method;
import java.lang.reflect.Modifier;
import java.util.ArrayList;
import java.util.List;

/** All promises: any numbers in any state are answered without a throw, and each refusal is one that is told. */
public final class AnyCallTest {
    private static final Check CHECK = new Check("AnyCallTest");
    private static final int[] NUMBERS = {Integer.MIN_VALUE, -1, 0, 1, 2, 3, 4, 9, 24, 41, 161, Integer.MAX_VALUE};
    private static final String[][] STATES = {{}, {"cast 4 1 3"}, {"tell heir 4 0 23 9;"}, Edges.BUSY,
        {"tell " + Edges.CROWD, "see 3 0 14", "see 3 0 14", "see 3 0 14", "see 3 0 14", "see 3 0 14", "see 3 0 14",
            "keep 0", "sheet 0 0 40", "sheet 1 1 0", "type " + Edges.blanks(160)},
        {"tell " + Edges.CROWD, "sink 0", "keep 1", "blow 0 1", "blow 1 2", "blow 2 3", "blow 3 4", "blow 4 1",
            "blow 5 2", "blow 6 3", "blow 7 4", "blow 23 1"}};

    public static void main(String[] args) {
        for (String[] state : STATES) {
            for (Method method : FlotsamWill.class.getDeclaredMethods()) {
                if (!Modifier.isPublic(method.getModifiers())) continue;
                List<String> calls = new ArrayList<>(List.of(method.getName()));
                for (int a = 0; a < method.getParameterCount(); a++) calls = withEachNumber(calls);
                askAll(state, calls);
            }
        }
        CHECK.finish();
    }

    private static List<String> withEachNumber(List<String> calls) {
        List<String> longer = new ArrayList<>();
        for (String call : calls) {
            for (int number : NUMBERS) longer.add(call + " " + number);
        }
        return longer;
    }

    /** One object does for many calls, until one of them may have changed it. */
    private static void askAll(String[] state, List<String> calls) {
        List<String> refused = new ArrayList<>();
        Play play = new Play(state);
        int asked = 0;
        for (String call : calls) {
            long answer = play.answer(call);
            asked++;
            CHECK.due(call + " answers as told: " + answer, isTold(call, answer) ? 1 : 0, 1);
            boolean changesNothing = answer < 0 && !call.equals("text");
            if (changesNothing) refused.add(call);
            if (changesNothing && asked < 200) continue;
            play = new Play(state);
            asked = 0;
        }
        changeNothing(state, refused);
    }

    /** Some forty of those that were refused, one behind another. */
    private static void changeNothing(String[] state, List<String> refused) {
        String[] all = state;
        for (int n = 0; n < refused.size(); n += refused.size() / 40 + 1) all = Edges.and(all, refused.get(n));
        List<String> changes = Sight.changes(Sight.whole(state), Sight.whole(all));
        CHECK.due("what is refused changes nothing: " + List.of(all) + " " + changes, changes.size(), 0);
    }

    private static boolean isTold(String call, long answer) {
        String name = call.split(" ")[0];
        if (answer >= FlotsamWill.BAD) return true;
        switch (name) {
            case "feed": case "cast": case "see": return answer == FlotsamWill.FULL;
            case "luck": case "mean": case "drift": case "back": return answer == FlotsamWill.STATE;
            case "fate": case "when": case "aim": case "hook": case "fire": case "rest": case "look": case "count":
                return answer == FlotsamWill.NONE;
            case "sheet": return answer == -14;
            case "lay": return answer == -11 || answer == -12;
            case "read": return answer <= -20 && answer >= -24;
            case "text": return answer <= -10 && answer >= -170;
            default: return false;
        }
    }
}
