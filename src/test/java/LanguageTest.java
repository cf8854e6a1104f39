import java.io.IOException;
import java.lang.reflect.Constructor;
import java.lang.reflect.Executable;
import java.lang.reflect.Field;
import java.lang.reflect.Method;
import java.lang.reflect.Modifier;
import java.nio.file.Files;
import java.nio.file.Path;
import java.util.ArrayList;
import java.util.HashSet;
import java.util.List;
import java.util.Map;
import java.util.Set;
import java.util.TreeMap;
import java.util.TreeSet;
import java.util.regex.Matcher;
import java.util.regex.Pattern;

/** The face of the class, and those rules of LANGUAGE.md that a look at the source and the class can tell. */
public final class LanguageTest {
    private static final Check CHECK = new Check("LanguageTest");
    private static final String FACE = """
        void declare(int,int,int,int) I A S
        int fact(int,int,int,int,int,int,int) I A S
        int drop(int) I S
        int pass() S
        void head(int,int,int,int) I A
        int atom(int,boolean,int,int,int) I A S
        int compare(int,int,int) I A S
        int add(int,int,int) A S
        int clear()
        int enter() A S
        int deny() A S
        int remove(int) I S
        boolean holds(int,int,int,int) I
        boolean holdsAt(int,int,int,int,int) I A
        boolean holdsAnew(int,int,int,int,int) I A
        int size(int) I
        int at(int,int) I
        int stratum(int) I
        int ways(int,int,int,int) I
        int cheapest(int,int,int,int) I
        int needed(int,int,int,int) I
        int whyNot(int,int,int,int) I A S
        int broken()
        int repair()
        int goals(int,int,int,int) I A
        int order(int,int) I
        int joins(int) I
        int indexes(int) I
        """;

    private LanguageTest() {
    }

    public static void main(String[] args) throws IOException {
        face();
        members();
        source(Files.readString(Path.of(args[0])));
        CHECK.end();
    }

    private static void face() {
        Set<String> got = new TreeSet<>();
        for (Method method : Datalogmill.class.getDeclaredMethods()) {
            if (!Modifier.isPrivate(method.getModifiers())) {
                StringBuilder row = new StringBuilder(method.getReturnType() + " " + method.getName() + "(");
                for (Class<?> type : method.getParameterTypes()) {
                    row.append(row.charAt(row.length() - 1) == '(' ? "" : ",").append(type);
                }
                row.append(')');
                for (Class<?> type : method.getExceptionTypes()) {
                    row.append(' ').append(type.getSimpleName().replace("Illegal", "").charAt(0));
                }
                got.add(row.toString());
                CHECK.due(row + " is public", Modifier.isPublic(method.getModifiers()), true);
            }
        }
        Set<String> due = new TreeSet<>(List.of(FACE.strip().split("\\s*\n\\s*")));
        CHECK.due("the face " + got, got.equals(due), true);
        Constructor<?>[] constructors = Datalogmill.class.getDeclaredConstructors();
        CHECK.due("constructors", constructors.length, 1);
        CHECK.due("its parameters", constructors[0].getParameterCount(), 0);
        CHECK.due("final", Modifier.isFinal(Datalogmill.class.getModifiers()), true);
    }

    private static void members() {
        Class<?>[] inside = Datalogmill.class.getDeclaredClasses();
        CHECK.due("some twelve classes", inside.length < 12, true);
        List<Class<?>> all = new ArrayList<>(List.of(inside));
        all.add(Datalogmill.class);
        Set<String> names = new HashSet<>();
        for (String row : FACE.strip().split("\\s*\n\\s*")) {
            names.add(row.substring(row.indexOf(' ') + 1, row.indexOf('(')));
        }
        int publicFields = 0;
        for (Class<?> type : all) {
            int fields = 0;
            for (Field field : type.getDeclaredFields()) {
                int modifiers = field.getModifiers();
                fields += Modifier.isStatic(modifiers) ? 0 : 1;
                publicFields += Modifier.isPublic(modifiers) ? 1 : 0;
                CHECK.due("static and not final: " + field, Modifier.isStatic(modifiers) && !Modifier.isFinal(modifiers), false);
                CHECK.due("private or a constant: " + field, Modifier.isPrivate(modifiers)
                        || Modifier.isPublic(modifiers) && Modifier.isStatic(modifiers), true);
            }
            CHECK.due("fields of " + type, fields <= 20, true);
            for (Method method : type.getDeclaredMethods()) {
                CHECK.due("a name of the face: " + method,
                        type != Datalogmill.class && names.contains(method.getName()), false);
                parameters(method);
            }
            for (Constructor<?> constructor : type.getDeclaredConstructors()) {
                parameters(constructor);
            }
        }
        CHECK.due("public constants", publicFields, 10);
    }

    private static void parameters(Executable executable) {
        CHECK.due("parameters of " + executable, executable.getParameterCount() <= 7, true);
    }

    private static void source(String source) {
        CHECK.due("characters", source.chars().allMatch(c -> c == '\n' || c >= 32 && c < 127), true);
        String bare = source.replaceAll("(?s)/\\*.*?\\*/", "").replaceAll("//[^\n]*", "").replaceAll("\"[^\"\n]*\"", "\"\"");
        String[] refused = {"->", "::", "\\bimport\\b", "\\bpackage\\b", "\\btry\\b", "\\bcatch\\b", "\\bfinally\\b",
            "\\bsynchronized\\b", "\\bassert\\b", "\\bwhile\\b", "\\bSystem\\b", "\\bObject\\b", "\"\"\\s*\\+",
            "\\+\\s*\"\"", "\\bdouble\\b", "\\bfloat\\b", "\\bhashCode\\b", "\\bequals\\b", "\\btoString\\b", "Exact\\b"};
        for (String pattern : refused) {
            CHECK.due("what is refused: " + pattern, Pattern.compile(pattern).matcher(bare).find(), false);
        }
        Matcher thrown = Pattern.compile("throw new (\\w+)").matcher(bare);
        while (thrown.find()) {
            CHECK.due(thrown.group(1), Set.of("IndexOutOfBoundsException", "IllegalArgumentException",
                    "IllegalStateException").contains(thrown.group(1)), true);
        }
        for (String line : source.split("\n")) {
            CHECK.due("length of " + line, line.length() <= 120, true);
        }
        methods(bare.split("\n"));
    }

    /** How long methods are, and how deep they call one another; those of one name are taken as one. */
    private static void methods(String[] lines) {
        Pattern start = Pattern.compile("^((?: {4}){1,2})(?:public|private) (?:static )?(?:[\\w\\[\\]]+ )?(\\w+)\\(.*");
        Pattern call = Pattern.compile("(\\w+)\\(");
        Map<String, Set<String>> calls = new TreeMap<>();
        String method = null;
        String end = "";
        int first = 0;
        for (int i = 0; i < lines.length; i++) {
            Matcher begun = start.matcher(lines[i]);
            if (begun.matches()) {
                method = begun.group(2);
                end = begun.group(1) + "}";
                first = i;
                calls.putIfAbsent(method, new TreeSet<>());
            } else if (lines[i].equals(end)) {
                CHECK.due("lines of " + method, i - first < 60, true);
                method = null;
            } else if (method != null) {
                Matcher called = call.matcher(lines[i]);
                while (called.find()) {
                    calls.get(method).add(called.group(1));
                }
            }
        }
        CHECK.due("methods that are found", calls.size() > 100, true);
        depths(calls);
    }

    private static void depths(Map<String, Set<String>> calls) {
        Map<String, Integer> depths = new TreeMap<>();
        for (int round = 0; round < 10; round++) {
            for (String method : calls.keySet()) {
                int deepest = 0;
                for (String called : calls.get(method)) {
                    deepest = Math.max(deepest, depths.getOrDefault(called, calls.containsKey(called) ? 1 : 0));
                }
                depths.put(method, deepest + 1);
            }
        }
        depths.forEach((method, depth) -> CHECK.due("depth of the calls of " + method + " " + depth, depth <= 8, true));
    }
}
