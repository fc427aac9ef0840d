import java.io.IOException;
import java.lang.reflect.Method;
import java.lang.reflect.Modifier;
import java.nio.file.Files;
import java.nio.file.Path;
import java.util.HashMap;
import java.util.Map;
import java.util.regex.Matcher;
import java.util.regex.Pattern;

/** README.md's example answers what stands behind its calls, and its tables have every call with all its parameters. */
public final class ReadmeTest {
    private static final Pattern EXAMPLE = Pattern.compile("(?s)```java\n(.*?)```");
    private static final Pattern LINE =
            Pattern.compile("(?:int (\\w+) = )?x\\.(\\w+)\\(([^)]*)\\);\\s*// (-?\\w+)(?::.*)?");

    public static void main(String[] args) throws IOException {
        String text = Files.readString(Path.of(args.length > 0 ? args[0] : ".").resolve("README.md"));
        example(text);
        tables(text);
        Due.end("ReadmeTest");
    }

    private static void example(String text) {
        Matcher found = EXAMPLE.matcher(text);
        Due.holds("there is an example", found.find());
        StringBuilder story = new StringBuilder();
        Map<String, String> numbers = new HashMap<>();
        for (String line : found.group(1).split("\n")) {
            if (line.isBlank() || line.equals("TwoStepOutputs x = new TwoStepOutputs();")) continue;
            Matcher call = LINE.matcher(line);
            Due.holds("a call with its answer: " + line, call.matches());
            story.append(told(call, numbers)).append(' ');
            if (call.group(1) != null) numbers.put(call.group(1), call.group(4));
        }
        Story.run("README.md", story.toString());
    }

    /** As a Story tells it, with numbers for the names that the example gives to them. */
    private static String told(Matcher call, Map<String, String> numbers) {
        StringBuilder with = new StringBuilder();
        for (String name : call.group(3).split(",\\s*")) {
            with.append(with.length() == 0 ? "" : ",").append(numbers.getOrDefault(name, name));
        }
        return call.group(2) + "(" + with + ")=" + call.group(4);
    }

    private static void tables(String text) {
        for (Method method : TwoStepOutputs.class.getDeclaredMethods()) {
            if (!Modifier.isPublic(method.getModifiers())) continue;
            String one = "\\w+";
            String with = method.getParameterCount() == 0 ? "" : one + (", " + one).repeat(method.getParameterCount() - 1);
            Pattern row = Pattern.compile("(?m)^\\| `" + method.getName() + "\\(" + with + "\\)` \\|");
            Due.holds("README.md tells " + method.getName(), row.matcher(text).find());
        }
    }
}
