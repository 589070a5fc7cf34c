import java.nio.file.Files;
import java.nio.file.Path;
import java.util.ArrayList;
import java.util.HashSet;
import java.util.List;
import java.util.Map;
import java.util.Set;
import java.util.regex.Matcher;
import java.util.regex.Pattern;

/** README.md: it tells each call of the face, and what its runs say is so. Both files are found from the project's root. */
public final class ReadmeTest {
    private static final Check CHECK = new Check("ReadmeTest");
    private static final Pattern FACE = Pattern.compile("(?m)^    public ((?:int|long) \\w+\\([^)]*\\)) \\{$");
    private static final Pattern ROW = Pattern.compile("(?m)^\\| `((?:int|long) (\\w+)\\([^)]*\\))` \\| (.*) \\| (.*) \\|$");
    private static final Pattern RUN = Pattern.compile("(?ms)^```java$(.*?)^```$");
    private static final Pattern ASK = Pattern.compile("x\\.(\\w+)\\((.*?)\\); *// (-?\\d+)(:.*)?");
    private static final Pattern TYPE = Pattern.compile("for \\(char c : \"(.*)\"\\.toCharArray\\(\\)\\) x\\.feed\\(c\\);");
    private static final Pattern AGAIN = Pattern.compile("for \\(int n = 0; n < (\\d+); n\\+\\+\\) x\\.(\\w+)\\((.*)\\);");
    private static final String MADE = "FlotsamWill x = new FlotsamWill();";
    private static final Map<String, Integer> CODES = Map.of("BAD", FlotsamWill.BAD, "STATE", FlotsamWill.STATE,
        "FULL", FlotsamWill.FULL, "NONE", FlotsamWill.NONE);

    /** What was asked and answered, by the name of the call: "feed -3". */
    private static final Set<String> SHOWN = new HashSet<>();

    public static void main(String[] args) throws Exception {
        String readme = Files.readString(Path.of("README.md"));
        constants(readme);
        Matcher runs = RUN.matcher(readme);
        while (runs.find()) play(runs.group(1));
        everyCall(readme, Files.readString(Path.of("src/main/java/FlotsamWill.java")));
        CHECK.finish();
    }

    private static void due(String what, boolean holds) {
        CHECK.due(what, holds ? 1 : 0, 1);
    }

    private static void constants(String readme) {
        for (Map.Entry<String, Integer> one : CODES.entrySet()) {
            due(one + " is told", readme.contains("| `" + one.getKey() + "` | " + one.getValue() + " |"));
        }
    }

    private static void play(String run) {
        Play play = null;
        for (String line : run.strip().split("\n")) {
            Matcher type = TYPE.matcher(line);
            Matcher again = AGAIN.matcher(line);
            Matcher ask = ASK.matcher(line);
            if (line.equals(MADE)) {
                play = new Play();
            } else if (play != null && type.matches()) {
                play.answer("type " + type.group(1));
            } else if (play != null && again.matches()) {
                for (int n = 0; n < Integer.parseInt(again.group(1)); n++) {
                    play.answer(words(again.group(2), again.group(3).replaceAll("\\bn\\b", "" + n)));
                }
            } else if (play != null && ask.matches()) {
                ask(play, ask);
            } else {
                due("a line that can be played: " + line, line.isEmpty());
            }
        }
    }

    private static String words(String name, String arguments) {
        return arguments.isEmpty() ? name : name + " " + arguments.replace(",", "");
    }

    private static void ask(Play play, Matcher ask) {
        long want = Long.parseLong(ask.group(3));
        CHECK.due(ask.group(), play.answer(words(ask.group(1), ask.group(2))), want);
        SHOWN.add(ask.group(1) + (want >= 0 ? "" : " " + want));
        // A constant is named with its own number.
        for (Map.Entry<String, Integer> one : CODES.entrySet()) {
            boolean named = ask.group(4) != null && ask.group(4).matches("(?s).*\\b" + one.getKey() + "\\b.*");
            if (named) CHECK.due(one.getKey() + " in " + ask.group(), one.getValue(), want);
        }
    }

    /** Each call has one row, in the order of the face; an answer, each constant and each refusal of it is shown. */
    private static void everyCall(String readme, String source) {
        List<String> face = new ArrayList<>();
        Matcher calls = FACE.matcher(source);
        while (calls.find()) face.add(calls.group(1));
        List<String> told = new ArrayList<>();
        Matcher rows = ROW.matcher(readme);
        while (rows.find()) {
            told.add(rows.group(1));
            String name = rows.group(2);
            due(name + " is answered in a run", SHOWN.contains(name));
            Matcher code = Pattern.compile("`(\\w+)`|(-\\d\\d): ").matcher(rows.group(3) + rows.group(4));
            while (code.find()) {
                String number = code.group(1) == null ? code.group(2) : "" + CODES.get(code.group(1));
                due(name + " answers " + number + " in a run", SHOWN.contains(name + " " + number));
            }
        }
        CHECK.due("calls of the face", face.size(), 43);
        due("rows " + told + " are the face " + face, told.equals(face));
    }
}
