import java.lang.reflect.Method;
import java.nio.file.Files;
import java.nio.file.Path;
import java.util.regex.Matcher;
import java.util.regex.Pattern;

/** The lines of README.md answer what stands behind them. */
public final class ReadmeTest {
    private static final Pattern LINE =
        Pattern.compile("x\\.(\\w+)\\(([-0-9, ]*)\\);\\s+// (-?\\d+).*");
    private static final Pattern TEXT =
        Pattern.compile("With `([^`]*)` in\\s+it, `does\\(\\)` answers (\\d+)");

    public static void main(String[] args) throws Exception {
        String readme = Files.readString(Path.of("README.md"));
        lines(readme);
        text(readme);
        Due.end();
    }

    private static void lines(String readme) throws Exception {
        CounterDeals x = new CounterDeals();
        int seen = 0;
        for (String line : readme.split("\n")) {
            Matcher m = LINE.matcher(line);
            if (m.matches()) {
                seen++;
                Due.is(line, call(x, m.group(1), m.group(2)), Long.parseLong(m.group(3)));
            } else {
                Due.holds("a call without its answer: " + line, !line.startsWith("x."));
            }
        }
        Due.holds("README.md has lines to ask", seen > 5);
    }

    private static long call(CounterDeals x, String name, String numbers) throws Exception {
        String[] parts = numbers.isBlank() ? new String[0] : numbers.split(",");
        Class<?>[] types = new Class<?>[parts.length];
        Object[] values = new Object[parts.length];
        for (int i = 0; i < parts.length; i++) {
            types[i] = int.class;
            values[i] = Integer.valueOf(parts[i].trim());
        }
        Method method = CounterDeals.class.getMethod(name, types);
        return ((Number) method.invoke(x, values)).longValue();
    }

    private static void text(String readme) {
        Matcher m = TEXT.matcher(readme);
        Due.holds("README.md has a text", m.find());
        CounterDeals x = new CounterDeals();
        Due.is(m.group(1), Due.does(x, m.group(1)), Long.parseLong(m.group(2)));
        Due.is("two EVENTS", x.of(0, 5), 2);
        Due.is("two SLICES", x.told(3), 2);
        Due.is("the RATE, twice", x.count(0, 1, CounterDeals.NONE), 20);
        Due.is("one back takes all away", x.back(), 0);
        Due.is("no GROUPS", x.told(2), 0);
        Due.is("no SLICES", x.told(3), 0);
    }
}
