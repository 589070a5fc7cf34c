import java.lang.reflect.Method;
import java.lang.reflect.Modifier;
import java.util.ArrayList;
import java.util.List;
import java.util.Map;
import java.util.Random;
import java.util.TreeMap;

/** All promises: long runs of calls by fixed seeds, each answer compared with the plain model's. */
public final class ModelTest {
    private static final Check CHECK = new Check("ModelTest");
    private static final int RUNS = 1000, CALLS = 512;
    private static final int[] EXTREMES = {Integer.MIN_VALUE, Integer.MAX_VALUE, Integer.MIN_VALUE + 1, -1, 100, 41};

    /** Each call with its share and what its arguments mostly are: t a TUB, i an HEIR, or the least and the most. */
    private static final String[] CALLS_WITH = {
        "feed 1 0:127", "end 1 0:5", "fault 2",
        "rule 3 0:4", "tub 3 t 0:5", "heir 3 i 0:3", "current 1 0:9", "wind 1 0:23",
        "alter 6 t 0:4 0:20", "stand 6 i 0:3 0:20", "set 5 0:9 0:4", "blow 6 0:23 0:4", "phase 2 0:5",
        "cast 3 0:9 1:9 0:23", "sink 1 0:4",
        "fate 6 t 0:3", "where 8 t 0:24 0:2", "has 6 i 0:1", "all 6 0:4",
        "when 5 t i", "aim 4 t i", "ways 4 t 0:3", "place 5 i 0:1", "hook 6 i 1:150", "fire 5 i 0:1",
        "moon 4 0:1", "rest 6 i i 0:1",
        "luck 9 0:10 t i 0:1", "mean 8 0:10 i 0:1",
        "see 2 t 0:24 0:30", "forget 5 0:6", "kinds 6 t", "sets 6 0:9", "look 7 t 0:1",
        "drift 5 -9999:9999 1:60 0:1",
        "keep 2 0:1", "back 2 0:1", "sheet 4 0:3 0:2 0:12", "lay 6 0:3 0:12 0:9", "read 6 0:3 0:2 0:9 0:4",
        "torn 2", "count 4 0:5"};

    private final Random random;
    private final FlotsamWill real = new FlotsamWill();
    private final Model model = new Model();
    private final String run;
    private int calls = 0;
    private final Map<String, Method> realCalls = callsOf(FlotsamWill.class);
    private final Map<String, Method> modelCalls = callsOf(Model.class);

    private ModelTest(int seed) {
        random = new Random(seed);
        run = "run " + seed + " call ";
    }

    private static Map<String, Method> callsOf(Class<?> face) {
        Map<String, Method> calls = new TreeMap<>();
        for (Method method : face.getDeclaredMethods()) {
            if ((method.getModifiers() & (Modifier.PRIVATE | Modifier.STATIC)) == 0) calls.put(method.getName(), method);
        }
        return calls;
    }

    public static void main(String[] args) throws Exception {
        List<String[]> shares = new ArrayList<>();
        for (String call : CALLS_WITH) {
            String[] words = call.split(" ");
            for (int share = Integer.parseInt(words[1]); share > 0; share--) shares.add(words);
        }
        for (int seed = 1; seed <= RUNS; seed++) new ModelTest(seed).go(shares);
        CHECK.finish();
    }

    private void go(List<String[]> shares) throws Exception {
        tell(new RandomText(random).text());
        while (calls < CALLS) {
            int dice = random.nextInt(1000);
            if (dice < 2) tell(new RandomText(random).text());
            else if (dice < 5) tell(new RandomText(random).spoiled());
            else if (dice == 5) same("text");
            else if (dice < 40) seeWhatIs();
            else if (dice < 46) readGoodSheet();
            else call(shares.get(random.nextInt(shares.size())));
        }
    }

    private void call(String[] words) throws Exception {
        Integer[] args = new Integer[words.length - 2];
        for (int a = 0; a < args.length; a++) args[a] = argument(words[a + 2]);
        same(words[0], args);
    }

    private int argument(String word) {
        if (word.equals("t")) return argument(0, Math.max(0, model.rule(0) - 1));
        if (word.equals("i")) return argument(0, Math.max(0, model.rule(1) - 1));
        String[] bounds = word.split(":");
        return argument(Integer.parseInt(bounds[0]), Integer.parseInt(bounds[1]));
    }

    private int argument(int least, int most) {
        switch (random.nextInt(50)) {
            case 0: return least - 1;
            case 1: return most + 1;
            case 2: return EXTREMES[random.nextInt(EXTREMES.length)];
            default: return least + random.nextInt(most - least + 1);
        }
    }

    private void same(String name, Integer... args) throws Exception {
        Method realCall = realCalls.get(name);
        Object[] given = args;
        long got = ((Number) realCall.invoke(real, given)).longValue();
        long want = ((Number) modelCalls.get(name).invoke(model, given)).longValue();
        calls++;
        CHECK.due(run + calls + " " + name + List.of(args), got, want);
    }

    private void tell(String text) throws Exception {
        same("end", 0);
        for (char c : text.toCharArray()) same("feed", (int) c);
        same("text");
        same("fault");
    }

    /** What is seen at random is hardly ever so; this is so by some kind or current. */
    private void seeWhatIs() throws Exception {
        int t = argument("t");
        int n = random.nextInt(25);
        same("see", t, n, Math.max(0, model.where(t, n, 0)));
    }

    private void readGoodSheet() throws Exception {
        int lane = random.nextInt(3);
        int tubs = 1 + random.nextInt(3);
        same("sink", random.nextInt(4));
        same("sheet", 2, lane, 3 * tubs + random.nextInt(3));
        for (int t = 0; t < tubs; t++) {
            same("lay", 2, 3 * t, random.nextInt(10));
            same("lay", 2, 3 * t + 1, 1 + random.nextInt(9));
            same("lay", 2, 3 * t + 2, random.nextInt(24));
        }
        same("read", 2, lane, 0, tubs + random.nextInt(2));
        same("torn");
        same("rule", 0);
    }
}
