import java.lang.reflect.Constructor;
import java.lang.reflect.Field;
import java.lang.reflect.Method;
import java.lang.reflect.Modifier;
import java.nio.file.Files;
import java.nio.file.Path;
import java.util.ArrayList;
import java.util.Arrays;
import java.util.List;
import java.util.Set;
import java.util.TreeSet;
import java.util.regex.Matcher;
import java.util.regex.Pattern;

/** The public face, and those rules of LANGUAGE.md that can be looked for; the source is found from the project's root. */
public final class FaceTest {
    private static final Check CHECK = new Check("FaceTest");
    private static final Path SOURCE = Path.of("src/main/java/FlotsamWill.java");
    private static final String[] FACE = {
        "int feed(int)", "int end(int)", "int text()", "int fault()", "int rule(int)", "int tub(int,int)",
        "int heir(int,int)", "int current(int)", "int wind(int)", "int alter(int,int,int)", "int stand(int,int,int)",
        "int set(int,int)", "int blow(int,int)", "int phase(int)", "int cast(int,int,int)", "int sink(int)",
        "int fate(int,int)", "int where(int,int,int)", "int has(int,int)", "int all(int)", "int when(int,int)",
        "int aim(int,int)", "int ways(int,int)", "int place(int,int)", "int hook(int,int)", "int fire(int,int)",
        "int moon(int)", "int rest(int,int,int)", "long luck(int,int,int,int)", "long mean(int,int,int)",
        "int see(int,int,int)", "int forget(int)", "int kinds(int)", "int sets(int)", "int look(int,int)",
        "int drift(int,int,int)", "int keep(int)", "int back(int)", "int sheet(int,int,int)", "int lay(int,int,int)",
        "int read(int,int,int,int)", "int torn()", "int count(int)"};

    public static void main(String[] args) throws Exception {
        face();
        classesInside();
        words();
        sizes();
        CHECK.finish();
    }

    private static boolean isPrivate(int modifiers) {
        return Modifier.isPrivate(modifiers);
    }

    private static void due(String what, boolean holds) {
        CHECK.due(what, holds ? 1 : 0, 1);
    }

    private static void face() {
        Class<?> face = FlotsamWill.class;
        due("public and final", face.getModifiers() == (Modifier.PUBLIC | Modifier.FINAL));
        Set<String> found = new TreeSet<>();
        Set<String> names = new TreeSet<>();
        for (Method method : face.getDeclaredMethods()) {
            if (isPrivate(method.getModifiers())) continue;
            due(method + " is public", method.getModifiers() == Modifier.PUBLIC);
            StringBuilder told = new StringBuilder(method.getReturnType() + " " + method.getName() + "(");
            for (Class<?> type : method.getParameterTypes()) {
                told.append(told.charAt(told.length() - 1) == '(' ? "" : ",").append(type);
            }
            found.add(told.append(")").toString());
            names.add(method.getName());
        }
        due("the methods are " + found, found.equals(new TreeSet<>(Arrays.asList(FACE))));
        for (Class<?> one : all()) {
            for (Method method : one.getDeclaredMethods()) {
                if (!isPrivate(method.getModifiers())) continue;
                due(method + " bears its own name", !names.contains(method.getName()));
            }
        }
        List<String> constants = new ArrayList<>();
        for (Field field : face.getDeclaredFields()) {
            if (!isPrivate(field.getModifiers())) constants.add(field.getName());
        }
        due("the constants are " + constants, constants.equals(List.of("BAD", "STATE", "FULL", "NONE")));
        Constructor<?>[] makers = face.getDeclaredConstructors();
        due("one constructor", makers.length == 1 && makers[0].getModifiers() == Modifier.PUBLIC);
    }

    private static List<Class<?>> all() {
        List<Class<?>> all = new ArrayList<>(List.of(FlotsamWill.class.getDeclaredClasses()));
        all.add(FlotsamWill.class);
        return all;
    }

    private static void classesInside() {
        due("some twelve classes", all().size() <= 12);
        for (Class<?> one : all()) {
            if (one != FlotsamWill.class) due(one + " is static", Modifier.isStatic(one.getModifiers()));
            int held = 0;
            for (Field field : one.getDeclaredFields()) {
                int modifiers = field.getModifiers();
                if (!Modifier.isStatic(modifiers)) held++;
                else due(field + " is final", Modifier.isFinal(modifiers));
            }
            due(one + " has some twenty fields: " + held, held <= 20);
            for (Method method : one.getDeclaredMethods()) {
                due(method + " takes seven at most", method.getParameterCount() <= 7);
            }
            // So none can be handed a part of the object that makes it.
            for (Constructor<?> maker : one.getDeclaredConstructors()) {
                due(maker + " is given nothing", maker.getParameterCount() == 0);
            }
        }
    }

    /** The source without its comments and what stands in quotes. */
    private static String code() throws Exception {
        return Files.readString(SOURCE).replaceAll("(?s)/\\*.*?\\*/", "").replaceAll("//[^\n]*", "")
            .replaceAll("\"[^\"\n]*\"", "\"\"");
    }

    private static void words() throws Exception {
        String code = code();
        for (String word : new String[] {"throw", "throws", "try", "catch", "synchronized", "assert", "import", "package",
                "protected", "volatile", "native", "transient", "equals", "hashCode", "toString", "System.out",
                "Object", "Random", "Thread", "double", "float", "yield", "record", "Exact"}) {
            Matcher found = Pattern.compile("(?<!\\w)" + Pattern.quote(word) + "(?!\\w)").matcher(code);
            due("no " + word, !found.find());
        }
        due("no lambda, no method reference", !code.contains("->") && !code.contains("::"));
        due("no initialiser block", !Pattern.compile("static\\s*\\{").matcher(code).find());
        due("signs 1 to 127", Files.readString(SOURCE).chars().allMatch(c -> c > 0 && c < 128));
        Matcher library = Pattern.compile("\\b(Math|Integer|Long|System|Arrays|String|StringBuilder)\\.(\\w+)").matcher(code);
        Set<String> used = new TreeSet<>();
        while (library.find()) used.add(library.group());
        due("of the library alone " + used, Set.of("Math.max", "Math.min", "Math.abs", "Integer.bitCount",
            "System.arraycopy").containsAll(used));
    }

    /** No method is longer than sixty lines; new rows are made by fields alone. */
    private static void sizes() throws Exception {
        int length = 0;
        for (String line : code().split("\n")) {
            boolean opens = line.matches("( {4}| {8})(public|private) .*\\) \\{");
            boolean makes = line.contains("new ");
            due("made by a field: " + line, !makes || line.matches(" +private .* = .*;"));
            if (opens) length = 0;
            length++;
            if (line.matches("( {4}| {8})}")) due("sixty lines at most", length <= 60);
        }
    }
}
