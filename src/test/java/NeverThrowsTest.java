import java.util.Random;

/** Far more calls than promised, with arguments from everywhere: none may throw. */
public final class NeverThrowsTest {
    private static final int OBJECTS = 40;
    private static final int CALLS = 10_000;

    private static final Random RANDOM = new Random(2707);

    public static void main(String[] args) {
        for (int object = 0; object < OBJECTS; object++) {
            CounterDeals x = new CounterDeals();
            long sum = 0;
            for (int i = 0; i < CALLS; i++) {
                sum += any(x, i);
            }
            Due.holds("all calls answered", sum != 0);
            Due.holds("STATES are 5 at most", x.refused(4) <= 5);
        }
        Due.end();
    }

    private static int a() {
        switch (RANDOM.nextInt(24)) {
            case 0: return RANDOM.nextInt();
            case 1: return Integer.MIN_VALUE;
            case 2: return Integer.MAX_VALUE;
            case 3: return -RANDOM.nextInt(6);
            case 4: return RANDOM.nextInt(220);
            default: return RANDOM.nextInt(8);
        }
    }

    private static long any(CounterDeals x, int i) {
        switch (RANDOM.nextInt(32)) {
            case 0: return x.counters(a());
            case 1: return x.masks(a(), a());
            case 2: return x.rates(a(), a(), RANDOM.nextInt(100));
            case 3: return x.forks(a());
            case 4: return x.exits(a());
            case 5: return x.group(a(), a(), RANDOM.nextInt(2), RANDOM.nextInt(2), a());
            case 6: return x.event(a(), a());
            case 7: return x.periods(a(), RANDOM.nextInt(60));
            case 8: return x.skids(a());
            case 9: return x.lives(a(), a());
            case 10: return x.runs(a(), a());
            case 11: return x.task(a(), a());
            case 12: return x.of(a(), a());
            case 13: return x.about(a(), a(), a());
            case 14: return x.count(a(), a(), a());
            case 15: return x.times(a(), a(), a());
            case 16: return x.scaled(a(), a(), a());
            case 17: return x.fit(a());
            case 18: return x.queue(a());
            case 19: return x.sample(a(), a());
            case 20: return x.told(a());
            case 21: return x.type(a());
            case 22: return x.clear();
            case 23: return x.does();
            case 24: return i % 3 == 0 ? x.back() : x.refused(4);
            case 25: return x.refused(a());
            case 26: return x.digest();
            case 27: return Due.does(x, RandomText.make(RANDOM));
            default: return x.runs(RANDOM.nextInt(3), 1 + RANDOM.nextInt(20));
        }
    }
}
