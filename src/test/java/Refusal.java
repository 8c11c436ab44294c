import java.util.function.Supplier;
import java.util.function.ToIntFunction;

/**
 * "Refused (any call, getters, too), changing nothing but how often": a call
 * is held against an object that was made alike and never had it.
 */
final class Refusal {
    private Refusal() {
    }

    static void is(String name, Supplier<CounterDeals> made, ToIntFunction<CounterDeals> call, int code) {
        int which = CounterDeals.BAD - code;
        CounterDeals x = made.get();
        CounterDeals y = made.get();
        Due.is(name, call.applyAsInt(x), code);
        for (int what = 0; what < 3; what++) {
            Due.is(name + ": how often, " + what, x.refused(what), y.refused(what) + (what == which ? 1 : 0));
        }
        sameBut(name + ", at once", x, y, which);
        statesAre(name, x, y, which);
        goesOn(name, made, call, which);
        textIs(name, made, call, which);
    }

    /** The digest has all that can be asked; one number of it is 1 more. */
    private static void sameBut(String name, CounterDeals x, CounterDeals y, int which) {
        long more = 1;
        for (int behind = numbers(y) - 1 - which; behind > 0; behind--) {
            more *= 31;
        }
        Due.is(name + ": nothing else", x.digest() - y.digest(), more);
    }

    /** How many numbers the digest goes through. */
    private static int numbers(CounterDeals x) {
        int tasks = x.told(1);
        int all = 5 + 9 + 8 + tasks * (3 + 8) + 3 * x.told(4);
        for (int g = 0; g < x.told(2); g++) {
            all += 11 + x.of(g, 5) * (3 + tasks + 2) + 2 * tasks;
        }
        return all;
    }

    private static void statesAre(String name, CounterDeals x, CounterDeals y, int which) {
        for (int left = y.refused(4); left > 0; left--) {
            Due.is(name + ": back", x.back(), left - 1);
            Due.is(name + ": back of the other", y.back(), left - 1);
            sameBut(name + ", back", x, y, which);
        }
        Due.is(name + ": no STATE more", x.back(), CounterDeals.NO);
    }

    /** SAMPLES that wait are seen only as they are TOLD. */
    private static void goesOn(String name, Supplier<CounterDeals> made, ToIntFunction<CounterDeals> call,
            int which) {
        CounterDeals x = made.get();
        CounterDeals y = made.get();
        call.applyAsInt(x);
        for (int i = 0; i < 5; i++) {
            Due.is(name + ": runs", x.runs(0, 1), y.runs(0, 1));
            sameBut(name + ", going on", x, y, which);
        }
    }

    /** The bytes of THE TEXT are seen only as they are done. */
    private static void textIs(String name, Supplier<CounterDeals> made, ToIntFunction<CounterDeals> call,
            int which) {
        CounterDeals x = made.get();
        CounterDeals y = made.get();
        call.applyAsInt(x);
        Due.is(name + ": does", x.does(), y.does());
        sameBut(name + ", does", x, y, which);
    }
}
