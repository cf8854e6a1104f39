import java.io.IOException;
import java.lang.reflect.Method;
import java.lang.reflect.Modifier;
import java.nio.file.Files;
import java.nio.file.Path;
import java.util.HashSet;
import java.util.Set;
import java.util.regex.Matcher;
import java.util.regex.Pattern;

/** The examples of README.md, as one run of calls; they show each method, and answer what is told behind them. */
public final class ReadmeTest {
    private static final Check CHECK = new Check("ReadmeTest");
    private static final Pattern LINE = Pattern.compile("mill\\.((\\w+)\\(.*?\\));\\s*// (.*)");
    private static final Pattern ANSWER = Pattern.compile("(throws )?(-?\\d+|true|false|NONE|\\w+Exception)(: .*)?");

    private ReadmeTest() {
    }

    public static void main(String[] args) throws IOException {
        Story story = new Story(CHECK);
        Set<String> shown = new HashSet<>();
        boolean inside = false;
        for (String line : Files.readString(Path.of(args[0])).split("\n")) {
            if (line.startsWith("```")) {
                inside = line.equals("```java");
            } else if (inside && !line.equals("Datalogmill mill = new Datalogmill();")) {
                Matcher call = LINE.matcher(line);
                CHECK.so("no call of an example: " + line, call.matches());
                if (call.matches()) {
                    shown.add(call.group(2));
                    tell(story, call.group(1).replace("Datalogmill.", ""), ANSWER.matcher(call.group(3)));
                }
            }
        }
        for (Method method : Datalogmill.class.getDeclaredMethods()) {
            CHECK.so("no example of " + method.getName(),
                    !Modifier.isPublic(method.getModifiers()) || shown.contains(method.getName()));
        }
        CHECK.end();
    }

    private static void tell(Story story, String call, Matcher due) {
        boolean silent = call.startsWith("declare(") || call.startsWith("head(");
        CHECK.so("what " + call + " answers is " + (silent ? "" : "not ") + "told", due.matches() != silent);
        if (silent || !due.matches()) {
            story.tell(call);
        } else if (due.group(1) != null) {
            story.refused(call, due.group(2));
        } else {
            story.tells(call, number(due.group(2)));
        }
    }

    private static long number(String word) {
        return word.equals("NONE") ? Datalogmill.NONE : word.equals("true") ? 1 : word.equals("false") ? 0
                : Long.parseLong(word);
    }
}
