import java.lang.reflect.InvocationTargetException;
import java.lang.reflect.Method;
import java.nio.charset.StandardCharsets;
import java.nio.file.Files;
import java.nio.file.Path;
import java.util.regex.Matcher;
import java.util.regex.Pattern;

/** README.md's example is lived line by line: each call must answer what stands behind it there. */
public final class ReadmeTest {
    private static final Checks c = new Checks();
    private static final Path README = Path.of("README.md");
    private static final Path OWN_SOURCE = Path.of("src/test/java/ReadmeTest.java");
    private static final Pattern STATEMENT = Pattern.compile("(tell\\(x, |x\\.(\\w+)\\()(.*)\\);(?: +// (throws \\w+|[-\\w]+):.*)?");
    private static final String OBJECT = "RoadToPort x = new RoadToPort();";

    public static void main(String[] args) throws Exception {
        String[] blocks = Files.readString(README, StandardCharsets.UTF_8).split("```");
        String own = plain(Files.readString(OWN_SOURCE, StandardCharsets.UTF_8));
        int helpers = 0;
        int examples = 0;
        for (int k = 1; k < blocks.length; k += 2) {
            if (blocks[k].startsWith("java\nstatic ")) {
                helpers++;
                c.is("the helpers are as told here", own.contains(plain(blocks[k].substring(4))), true);
            } else if (blocks[k].startsWith("java\n" + OBJECT)) {
                examples++;
                c.is("the example has calls", live(blocks[k].substring(5 + OBJECT.length())) > 40, true);
            }
        }
        c.is("blocks of helpers", helpers, 1);
        c.is("blocks of examples", examples, 1);
        c.close("ReadmeTest");
    }

    private static String plain(String text) {
        return text.replaceAll("\\s+", " ").trim();
    }

    /** How many calls there are with an answer behind them. */
    private static int live(String example) throws Exception {
        RoadToPort x = new RoadToPort();
        int calls = 0;
        for (String line : example.replaceAll("\"\\s+\\+ \"", "").split("\n")) {
            if (line.isBlank()) {
                continue;
            }
            Matcher m = STATEMENT.matcher(line);
            if (!m.matches()) {
                throw new AssertionError("neither a text nor a call: " + line);
            }
            if (m.group(2) == null) {
                tell(x, m.group(3).substring(1, m.group(3).length() - 1));
                continue;
            }
            String answer = call(x, m.group(2), m.group(3));
            if (m.group(4) != null) {
                calls++;
                c.is(line + " (it answered " + answer + ")", answer.equals(m.group(4)), true);
            }
        }
        return calls;
    }

    private static String call(RoadToPort x, String name, String words) throws Exception {
        String[] parts = words.isEmpty() ? new String[0] : words.split(", ");
        Object[] numbers = new Object[parts.length];
        Class<?>[] types = new Class<?>[parts.length];
        for (int k = 0; k < parts.length; k++) {
            numbers[k] = parts[k].equals("RoadToPort.NONE") ? Integer.valueOf(RoadToPort.NONE) : Integer.decode(parts[k]);
            types[k] = int.class;
        }
        Method method = RoadToPort.class.getMethod(name, types);
        try {
            return String.valueOf(method.invoke(x, numbers));
        } catch (InvocationTargetException e) {
            return "throws " + e.getCause().getClass().getSimpleName();
        }
    }

    static void tell(RoadToPort x, String text) {
        for (int i = 0; i < text.length(); i += 20) {
            x.feed(four(text, i), four(text, i + 4), four(text, i + 8), four(text, i + 12), four(text, i + 16));
        }
        x.end(text.length());
    }

    static int four(String text, int from) {
        int number = 0;
        for (int i = from; i < from + 4; i++) {
            number = number << 8 | (i < text.length() ? text.charAt(i) : 0);
        }
        return number;
    }
}
