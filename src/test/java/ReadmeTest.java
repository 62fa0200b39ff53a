import java.io.IOException;
import java.lang.reflect.Method;
import java.nio.file.Files;
import java.nio.file.Path;
import java.util.regex.Matcher;
import java.util.regex.Pattern;

/** What README.md says that calls answer: each block on a new object, each call with the answer told behind it. */
public final class ReadmeTest extends Bench {
    private static final Pattern CALL = Pattern.compile("bus\\.(\\w+)\\(([^)]*)\\); +// (\\S+)(?: .*)?");
    private static final int LEAST_CALLS = 30;
    private static int calls = 0;

    private static int number(String word) {
        if (word.startsWith("'")) {
            return word.charAt(1);
        }
        switch (word) {
            case "BAD": return BAD;
            case "NO": return NO;
            case "FULL": return FULL;
            case "NONE": return NONE;
            case "WAITS": return WAITS;
            default: return Integer.parseInt(word);
        }
    }

    private static int answer(SplitWatch bus, String name, String told) throws ReflectiveOperationException {
        String[] words = told.isEmpty() ? new String[0] : told.split(", ");
        Class<?>[] types = new Class<?>[words.length];
        Object[] numbers = new Object[words.length];
        for (int i = 0; i < words.length; i++) {
            types[i] = int.class;
            numbers[i] = number(words[i]);
        }
        Method call = SplitWatch.class.getMethod(name, types);
        return (Integer) call.invoke(bus, numbers);
    }

    public static void main(String[] args) throws IOException, ReflectiveOperationException {
        SplitWatch bus = null;
        boolean inJava = false;
        for (String line : Files.readAllLines(Path.of("README.md"))) {
            if (line.startsWith("```")) {
                inJava = line.equals("```java");
            } else if (inJava && line.equals("SplitWatch bus = new SplitWatch();")) {
                bus = new SplitWatch();
            } else if (inJava) {
                Matcher m = CALL.matcher(line);
                due("a line of README.md", m.matches() ? "a call with its answer" : line, "a call with its answer");
                if (m.matches()) {
                    calls++;
                    due(line, answer(bus, m.group(1), m.group(2)), number(m.group(3)));
                }
            }
        }
        due("README.md has calls enough", Math.min(calls, LEAST_CALLS), LEAST_CALLS);
        finish();
    }
}
