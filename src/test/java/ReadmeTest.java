import java.lang.reflect.Method;
import java.nio.file.Files;
import java.nio.file.Path;
import java.util.HashMap;
import java.util.Map;
import java.util.regex.Matcher;
import java.util.regex.Pattern;

/** The example in README.md, line by line: each call answers the number that is written behind it. */
public final class ReadmeTest {
    private static final Pattern EXAMPLE = Pattern.compile("(?s)```java\n(.*?)```");
    private static final Pattern TYPING = Pattern.compile("for \\(char b : \"(.*)\"\\.toCharArray\\(\\)\\) x\\.type\\((\\d), b\\);");
    private static final Pattern CALL = Pattern.compile("x\\.(\\w+)\\(([-\\d, ]*)\\); +// (-?\\d+), .+");
    private static final String[] SAID = {"`NONE`", "`BAD`", "`NOT`", "`FULL`", "| -1 |", "| -2 |", "| -3 |", "| -4 |",
        "| -11 | 1 | NULL |", "| -12 | 2 | INDEX |", "| -13 | 3 | CAST |", "| -14 | 4 | STORE |", "| -15 | 5 | SIZE |",
        "at most 512 calls", ".ci/run"};

    private final Check check = new Check();
    private final CabbageCradles x = new CabbageCradles();
    private final Map<String, Method> face = new HashMap<>();

    public static void main(String[] args) throws Exception {
        new ReadmeTest().read(Files.readString(Path.of("README.md")));
    }

    private void read(String readme) throws Exception {
        for (Method m : CabbageCradles.class.getMethods()) face.put(m.getName(), m);
        Matcher example = EXAMPLE.matcher(readme);
        check.holds("there is an example", example.find());
        String[] lines = example.group(1).split("\n");
        check.holds("it begins with a new object", lines[0].equals("CabbageCradles x = new CabbageCradles();"));
        for (int i = 1; i < lines.length; i++) readLine(lines[i]);
        for (String words : SAID) check.holds("README says " + words, readme.contains(words));
        check.end();
    }

    private void readLine(String line) throws Exception {
        Matcher typing = TYPING.matcher(line);
        if (typing.matches()) {
            Fields.type(x, Integer.parseInt(typing.group(2)), typing.group(1));
            return;
        }
        Matcher call = CALL.matcher(line);
        boolean isCall = call.matches() && face.containsKey(call.group(1));
        check.holds("a call with its answer: " + line, isCall);
        if (isCall) check.due(line, Long.parseLong(call.group(3)), answer(face.get(call.group(1)), call.group(2)));
    }

    private long answer(Method m, String numbers) throws Exception {
        String[] parts = numbers.isEmpty() ? new String[0] : numbers.split(", ");
        Object[] given = new Object[parts.length];
        for (int i = 0; i < parts.length; i++) given[i] = Integer.valueOf(parts[i]);
        return ((Number) m.invoke(x, given)).longValue();
    }
}
