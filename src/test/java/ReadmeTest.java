import java.io.IOException;
import java.lang.reflect.Method;
import java.nio.file.Files;
import java.nio.file.Path;
import java.util.TreeSet;
import java.util.regex.Matcher;
import java.util.regex.Pattern;

/** The calls that README.md shows, made in their order: each answers what is written behind it. */
public final class ReadmeTest {
    private static final Harness H = new Harness();
    private static final Pattern TOLD = Pattern.compile("^tell\\(x, \"([^\"]*)\"\\);$");
    private static final Pattern ASKED = Pattern.compile("^x\\.(\\w+)\\(([^)]*)\\); *// (-?\\d+): .*$");

    public static void main(String[] args) throws IOException, ReflectiveOperationException {
        H.part("README.md");
        ScribeBlocks x = new ScribeBlocks();
        TreeSet<String> called = new TreeSet<>();
        for (String line : Files.readAllLines(Path.of("README.md"))) {
            Matcher told = TOLD.matcher(line);
            Matcher asked = ASKED.matcher(line);
            if (told.matches()) {
                tell(x, told.group(1));
            } else if (asked.matches()) {
                H.due(line, call(x, asked.group(1), asked.group(2)), Integer.parseInt(asked.group(3)));
                called.add(asked.group(1));
            } else {
                H.due("neither told nor asked: " + line, line.startsWith("x.") || line.startsWith("tell(") ? 1 : 0, 0);
            }
        }
        H.due("the calls shown", called.size() >= 25 ? 1 : 0, 1);
        H.finish();
    }

    /** As README.md writes it. */
    static void tell(ScribeBlocks x, String text) {
        x.end(0);
        String padded = text + " ".repeat(19);
        for (int at = 0; at < text.length(); at += 20) {
            int[] five = new int[5];
            for (int i = 0; i < 20; i++) {
                five[i / 4] = five[i / 4] << 8 | padded.charAt(at + i);
            }
            x.feed(five[0], five[1], five[2], five[3], five[4]);
        }
        x.end(text.length());
    }

    private static int call(ScribeBlocks x, String name, String given) throws ReflectiveOperationException {
        String[] words = given.isEmpty() ? new String[0] : given.split(", ");
        for (Method m : ScribeBlocks.class.getMethods()) {
            if (m.getName().equals(name) && m.getParameterCount() == words.length) {
                Object[] numbers = new Object[words.length];
                for (int i = 0; i < words.length; i++) {
                    numbers[i] = m.getParameterTypes()[i] == boolean.class ? (Object) Boolean.valueOf(words[i])
                            : (Object) Integer.valueOf(words[i]);
                }
                return (int) m.invoke(x, numbers);
            }
        }
        return Integer.MIN_VALUE;
    }
}
