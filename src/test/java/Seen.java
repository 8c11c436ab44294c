import java.util.LinkedHashMap;
import java.util.Map;
import java.util.Set;
import java.util.TreeSet;
import java.util.function.Supplier;

/**
 * All that can be seen of an object, each number under its name. What no call
 * only asks (MASKS, RATES, SAMPLES that wait) is seen on others made alike.
 */
final class Seen {
    private static final int KINDS = 8;
    private final Map<String, Integer> all = new LinkedHashMap<>();

    Seen(Supplier<CounterDeals> made) {
        CounterDeals x = made.get();
        whole(x);
        tasks(x);
        for (int g = 0; g < x.told(2); g++) {
            group(x, g);
        }
        masksAndRates(made.get());
        waiting(made.get());
    }

    /** What is other in a later one: "name was > is", "-" where there was none. */
    Set<String> changes(Seen later) {
        Set<String> names = new TreeSet<>(all.keySet());
        names.addAll(later.all.keySet());
        Set<String> changed = new TreeSet<>();
        for (String name : names) {
            String was = text(all.get(name));
            String is = text(later.all.get(name));
            if (!was.equals(is)) {
                changed.add(name + " " + was + " > " + is);
            }
        }
        return changed;
    }

    private static String text(Integer v) {
        return v == null ? "-" : v.toString();
    }

    private void whole(CounterDeals x) {
        for (int what = 0; what <= 4; what++) {
            all.put("refused(" + what + ")", x.refused(what));
        }
        for (int what = 0; what <= 8; what++) {
            all.put("told(" + what + ")", x.told(what));
        }
        for (int i = 0; i < 6; i++) {
            all.put("queue(" + i + ")", x.queue(i));
        }
        for (int i = 0; i < x.told(4); i++) {
            for (int what = 0; what <= 2; what++) {
                all.put("sample(" + i + "," + what + ")", x.sample(i, what));
            }
        }
        for (int bits = 0; bits < 1 << x.told(2); bits++) {
            all.put("fit(" + bits + ")", x.fit(bits));
        }
    }

    private void tasks(CounterDeals x) {
        for (int t = 0; t < x.told(1); t++) {
            for (int what = 0; what <= 2; what++) {
                all.put("task(" + t + "," + what + ")", x.task(t, what));
            }
        }
    }

    private void group(CounterDeals x, int g) {
        for (int what = 0; what <= 10; what++) {
            all.put("of(" + g + "," + what + ")", x.of(g, what));
        }
        for (int t = -1; t < x.told(1); t++) {
            all.put("times(" + g + "," + t + ",0)", x.times(g, t, 0));
            all.put("times(" + g + "," + t + ",1)", x.times(g, t, 1));
        }
        for (int e = 0; e < x.of(g, 5); e++) {
            String name = "(" + g + "," + e + ",";
            for (int what = 0; what <= 2; what++) {
                all.put("about" + name + what + ")", x.about(g, e, what));
            }
            for (int t = -1; t < x.told(1); t++) {
                all.put("count" + name + t + ")", x.count(g, e, t));
            }
            all.put("scaled" + name + "0)", x.scaled(g, e, 0));
            all.put("scaled" + name + "1)", x.scaled(g, e, 1));
        }
    }

    private void masksAndRates(CounterDeals x) {
        for (int k = 0; k < KINDS; k++) {
            all.put("MASK " + k, x.masks(k, 0));
            for (int t = 0; t < x.told(1); t++) {
                all.put("RATE " + t + " " + k, x.rates(t, k, 0));
            }
        }
    }

    /** None WATCHES in these SLICES, so only what waited ahead is TOLD. */
    private void waiting(CounterDeals x) {
        for (int g = 0; g < x.told(2); g++) {
            x.lives(g, 0);
        }
        int waits = x.told(5);
        int kept = x.told(4);
        x.runs(0, 4);
        for (int i = 0; i < waits; i++) {
            all.put("waits " + i + " GROUP", x.sample(kept + i, 0));
            all.put("waits " + i + " due", x.sample(kept + i, 2));
        }
    }
}
