import java.io.IOException;
import java.lang.reflect.Method;
import java.nio.charset.StandardCharsets;
import java.nio.file.Files;
import java.nio.file.Path;
import java.util.List;
import java.util.regex.Matcher;
import java.util.regex.Pattern;

/** Makes the calls of README.md's example, line by line, and holds their answers against what it says there. */
public final class ReadmeTest {
    private static final Check CHECK = new Check("ReadmeTest");
    private static final Pattern MADE = Pattern.compile("HalfMast x = new HalfMast\\(\\);");
    private static final Pattern TOLD = Pattern.compile("tell\\(x, \"([^\"]*)\"\\);");
    private static final Pattern ASKED = Pattern.compile("x\\.(\\w+)\\(([^)]*)\\); +// (-?\\d+|true|false)(:.*)?");

    public static void main(String[] args) throws IOException, ReflectiveOperationException {
        List<String> lines = Files.readAllLines(Path.of("README.md"), StandardCharsets.US_ASCII);
        telling(lines);
        HalfMast x = null;
        for (String line : lines) {
            Matcher told = TOLD.matcher(line);
            Matcher asked = ASKED.matcher(line);
            if (MADE.matcher(line).matches()) {
                x = new HalfMast();
            } else if (told.matches()) {
                tell(x, told.group(1));
            } else if (asked.matches()) {
                ask(x, line, asked);
            } else if (line.startsWith("x.") || line.startsWith("tell(")) {
                CHECK.due("a line that this test can read: " + line, false, true);
            }
        }
        CHECK.due("there is an example", x != null, true);
        CHECK.finish();
    }

    /** The first block of the README is what stands below, so that it is compiled and used here. */
    private static void telling(List<String> lines) throws IOException {
        String own = Files.readString(Path.of("src/test/java/ReadmeTest.java"), StandardCharsets.US_ASCII);
        int first = lines.indexOf("```java") + 1;
        for (String line : lines.subList(first, first + lines.subList(first, lines.size()).indexOf("```"))) {
            CHECK.due("the README's line is used here: " + line, own.contains(line), true);
        }
    }

    static void tell(HalfMast x, String text) {
        for (int i = 0; i < text.length(); i += 24) {
            x.feed(eight(text, i), eight(text, i + 8), eight(text, i + 16));
        }
    }

    static long eight(String text, int from) {
        long bytes = 0;
        for (int i = from; i < from + 8; i++) {
            bytes = bytes << 8 | (i < text.length() ? text.charAt(i) : 0);
        }
        return bytes;
    }

    private static void ask(HalfMast x, String line, Matcher asked) throws ReflectiveOperationException {
        String[] texts = asked.group(2).isEmpty() ? new String[0] : asked.group(2).split(", ");
        Method call = null;
        for (Method method : HalfMast.class.getMethods()) {
            call = method.getName().equals(asked.group(1)) ? method : call;
        }
        if (call == null || call.getParameterCount() != texts.length) {
            CHECK.due("there is a call such as " + line, false, true);
            return;
        }
        Object[] values = new Object[texts.length];
        for (int i = 0; i < texts.length; i++) {
            values[i] = call.getParameterTypes()[i] == boolean.class ? (Object) Boolean.valueOf(texts[i]) : Integer.valueOf(texts[i]);
        }
        String answer = String.valueOf(call.invoke(x, values));
        CHECK.due(line + " answers " + answer + ", which", answer.equals(asked.group(3)), true);
    }
}
