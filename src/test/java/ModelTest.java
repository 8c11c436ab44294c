import java.lang.reflect.Method;
import java.lang.reflect.Modifier;
import java.util.ArrayList;
import java.util.Arrays;
import java.util.Comparator;
import java.util.List;
import java.util.Random;

/** Random runs of 512 calls, the same ones every time, held against Model. */
public final class ModelTest {
    private static final int RUNS = 600;
    private static final int CALLS = 512;
    private static final int[] WILD = {-1, -2, -1000, 5, 6, 7, 8, 16, 31, 100, 201,
        Integer.MIN_VALUE, Integer.MAX_VALUE};
    private static final Method[] METHODS = methods("");
    private static final Method[] BUSY = methods("group event periods runs skids");

    private final Random random;
    private final CounterDeals x = new CounterDeals();
    private final Model model = new Model();
    private final List<String> log = new ArrayList<>();
    private int calls = 0;

    private ModelTest(long seed) {
        random = new Random(seed);
    }

    public static void main(String[] args) throws Exception {
        for (int run = 0; run < RUNS; run++) {
            String wrong = new ModelTest(run).differs();
            Due.holds("run " + run + " as in the model: " + wrong, wrong.isEmpty());
        }
        Due.end();
    }

    /** The public methods that are named; "": all. */
    private static Method[] methods(String names) {
        Method[] all = Arrays.stream(CounterDeals.class.getDeclaredMethods())
            .filter(m -> Modifier.isPublic(m.getModifiers()))
            .filter(m -> names.isEmpty() || Arrays.asList(names.split(" ")).contains(m.getName()))
            .toArray(Method[]::new);
        Arrays.sort(all, Comparator.comparing(Method::getName));
        return all;
    }

    /** The first call that differs with the calls ahead of it; "": none. */
    private String differs() throws Exception {
        boolean texts = random.nextInt(3) == 0;
        while (calls < CALLS) {
            boolean same;
            if (texts && random.nextInt(12) == 0) {
                same = typesText();
            } else if (random.nextInt(30) == 0) {
                same = goesBack();
            } else {
                same = callsAny();
            }
            if (!same) {
                int from = Math.max(0, log.size() - 60);
                return String.join("\n", log.subList(from, log.size()));
            }
        }
        return "";
    }

    private boolean agrees(String name, int... args) throws Exception {
        calls++;
        Class<?>[] types = new Class<?>[args.length];
        Object[] values = new Object[args.length];
        for (int i = 0; i < args.length; i++) {
            types[i] = int.class;
            values[i] = args[i];
        }
        Number got = (Number) CounterDeals.class.getMethod(name, types).invoke(x, values);
        Number want = (Number) Model.class.getMethod(name, types).invoke(model, values);
        log.add(name + Arrays.toString(args) + " answered " + got + ", due is " + want);
        // The digest is no call of the run here: it looks at all that is held.
        if (x.digest() != model.digest()) {
            log.add("digest differs");
            return false;
        }
        return got.longValue() == want.longValue();
    }

    private boolean callsAny() throws Exception {
        Method m = METHODS[random.nextInt(METHODS.length)];
        if (random.nextInt(2) == 0) {
            m = BUSY[random.nextInt(BUSY.length)];
        }
        return agrees(m.getName(), arguments(m));
    }

    private boolean goesBack() throws Exception {
        boolean same = true;
        for (int steps = random.nextInt(7); steps >= 0 && same; steps--) {
            same = agrees("back");
        }
        return same;
    }

    private boolean typesText() throws Exception {
        boolean same = agrees("clear");
        String text = RandomText.make(random);
        for (int i = 0; i < text.length() && same; i++) {
            same = agrees("type", text.charAt(i));
        }
        return same && agrees("does");
    }

    private int[] arguments(Method m) {
        int[] args = new int[m.getParameterCount()];
        int[] most = mostOf(m.getName());
        for (int i = 0; i < args.length; i++) {
            args[i] = most[2 * i] + random.nextInt(most[2 * i + 1] - most[2 * i] + 1);
            if (random.nextInt(40) == 0) {
                args[i] = WILD[random.nextInt(WILD.length)];
            }
        }
        return args;
    }

    /** For each argument the least and the most that is mostly tried. */
    private static int[] mostOf(String name) {
        switch (name) {
            case "counters": return new int[] {1, 4};
            case "masks": return new int[] {0, 7, 0, 15};
            case "rates": return new int[] {0, 3, 0, 7, 0, 99};
            case "forks": return new int[] {0, 4};
            case "exits": return new int[] {0, 5};
            case "group": return new int[] {0, 3, 1, 5, 0, 1, 0, 1, 0, 7};
            case "event": return new int[] {0, 5, 0, 7};
            case "periods": return new int[] {0, 4, 28, 90};
            case "skids": return new int[] {0, 3};
            case "lives": return new int[] {0, 5, 0, 1};
            case "runs": return new int[] {0, 4, 1, 12};
            case "task": return new int[] {0, 4, 0, 3};
            case "of": return new int[] {0, 5, 0, 11};
            case "about": return new int[] {0, 5, 0, 2, 0, 3};
            case "count": return new int[] {0, 5, 0, 2, -1, 4};
            case "times": return new int[] {0, 5, -1, 4, 0, 2};
            case "scaled": return new int[] {0, 5, 0, 2, 0, 2};
            case "fit": return new int[] {0, 63};
            case "queue": return new int[] {0, 6};
            case "sample": return new int[] {0, 12, 0, 3};
            case "told": return new int[] {0, 9};
            case "type": return new int[] {0, 127};
            case "refused": return new int[] {0, 5};
            default: return new int[0];
        }
    }
}
