import java.io.IOException;
import java.lang.reflect.Method;
import java.nio.file.Files;
import java.nio.file.Path;
import java.util.regex.Matcher;
import java.util.regex.Pattern;

/** README.md's example: each call that it shows answers what stands behind it. */
public final class ReadmeTest {
    private static final Pattern NEW = Pattern.compile("BeatWords x = new BeatWords\\(\\);");
    private static final Pattern TYPED = Pattern.compile("for \\(char c : \"([a-z ]*)\"\\.toCharArray\\(\\)\\) \\{");
    private static final Pattern CALL = Pattern.compile("x\\.(\\w+)\\((.*)\\);\\s*// (-?\\d+)\\b.*");
    private static final Pattern TYPING = Pattern.compile(" +x\\.type\\(c\\);|\\}");

    public static void main(String[] args) throws IOException, ReflectiveOperationException {
        Due due = new Due();
        due.promise("README.md");
        BeatWords x = new BeatWords();
        for (String line : example().split("\n")) {
            Matcher typed = TYPED.matcher(line);
            Matcher call = CALL.matcher(line);
            if (NEW.matcher(line).matches()) {
                x = new BeatWords();
            } else if (typed.matches()) {
                Runs.type(x, typed.group(1));
            } else if (call.matches()) {
                due.is(line, answer(x, call.group(1), call.group(2)), Long.parseLong(call.group(3)));
            } else {
                due.is("a line that the test can read", TYPING.matcher(line).matches() ? "" : line, "");
            }
        }
        due.is("calls held", due.held() >= 20 ? 1 : 0, 1);
        due.end();
    }

    private static String example() throws IOException {
        String readme = Files.readString(Path.of("README.md"));
        int from = readme.indexOf("```java\n");
        int to = readme.indexOf("\n```\n", from + 1);
        return from < 0 || to < 0 ? "" : readme.substring(from + "```java\n".length(), to);
    }

    private static long answer(BeatWords x, String name, String numbers) throws ReflectiveOperationException {
        String[] parts = numbers.isEmpty() ? new String[0] : numbers.split(", ");
        Class<?>[] types = new Class<?>[parts.length];
        Object[] values = new Object[parts.length];
        for (int i = 0; i < parts.length; i++) {
            types[i] = int.class;
            values[i] = parts[i].equals("BeatWords.NONE") ? BeatWords.NONE : Integer.parseInt(parts[i]);
        }
        Method method = BeatWords.class.getMethod(name, types);
        return ((Number) method.invoke(x, values)).longValue();
    }
}
