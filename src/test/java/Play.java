import java.lang.reflect.InvocationTargetException;
import java.lang.reflect.Method;
import java.lang.reflect.Modifier;
import java.util.Map;
import java.util.TreeMap;

/**
 * An object and the calls that it is given, each told as words: "alter 0 1 9". Two more words stand
 * for many calls: "type TEXT" feeds each byte, "tell TEXT" does so and has it read.
 */
final class Play {
    /** What later calls answer is free. */
    private static final int MOST_CALLS = 512;
    private static final Map<String, Method> CALLS = calls();

    private final FlotsamWill x = new FlotsamWill();
    private int calls = 0;

    Play(String... told) {
        for (String call : told) answer(call);
    }

    private static Map<String, Method> calls() {
        Map<String, Method> calls = new TreeMap<>();
        for (Method method : FlotsamWill.class.getDeclaredMethods()) {
            if (Modifier.isPublic(method.getModifiers())) calls.put(method.getName(), method);
        }
        return calls;
    }

    long answer(String told) {
        String[] words = told.split(" ", 2);
        if (words[0].equals("type")) return type(words[1]);
        if (words[0].equals("tell")) {
            type(words[1]);
            return answer("text");
        }
        String[] numbers = words.length == 1 ? new String[0] : words[1].split(" ");
        Object[] arguments = new Object[numbers.length];
        for (int a = 0; a < arguments.length; a++) arguments[a] = Integer.valueOf(numbers[a]);
        return call(words[0], arguments);
    }

    private long type(String text) {
        long answer = 0;
        for (char c : text.toCharArray()) answer = call("feed", (int) c);
        return answer;
    }

    private long call(String name, Object... arguments) {
        calls++;
        if (calls > MOST_CALLS) throw new IllegalStateException("a test gives one object too many calls");
        try {
            return ((Number) CALLS.get(name).invoke(x, arguments)).longValue();
        } catch (InvocationTargetException thrown) {
            throw new IllegalStateException(name + " threw " + thrown.getCause(), thrown);
        } catch (IllegalAccessException hidden) {
            throw new IllegalStateException(name + " is not public", hidden);
        }
    }
}
