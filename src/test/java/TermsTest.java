/**
 * The first part of "Terms", sentence by sentence: COUNTERS, KINDS, MASKS,
 * RATES, TASKS, GROUPS, EVENTS, who WATCHES, THE QUEUE; and what a TASK that
 * ENDS leaves. Each method tests the edge of the sentence that it quotes.
 */
public final class TermsTest {
    private static final int NONE = CounterDeals.NONE;
    private static final int NO = CounterDeals.NO;
    private static final int FULL = CounterDeals.FULL;

    public static void main(String[] args) {
        asManyCountersAsN();
        twoAtFirst();
        nBecomesLessOrMore();
        kindsHaveTheirOwnMasks();
        maskOfOneCounter();
        maskOfNone();
        maskFifteenAtFirst();
        tasksNeverMoreThanSix();
        parentsAhead();
        rateZeroAtFirst();
        rateNinetyNine();
        ratesAsInTheParentThen();
        groupsNeverMoreThanSix();
        eventsOneToFour();
        alikeEvents();
        watchesNone();
        watchesItsOwn();
        watchesThoseThatComeOfIt();
        liveAtFirst();
        theQueueAtFirst();
        theQueueEmptyAndFull();
        turnZeroAtFirst();
        endsIntoItsParent();
        endsWithNothing();
        endsOneBehindTheOther();
        endedLeavesRatesAndGroups();
        endedStaysInTotals();
        Due.end();
    }

    /** Six GROUPS of TASK 0, each with one EVENT of KIND 0, in THE QUEUE. */
    private static CounterDeals six() {
        CounterDeals x = new CounterDeals();
        for (int g = 0; g < 6; g++) {
            x.group(0, 5, 0, 0, 0);
        }
        return x;
    }

    private static void firstSit(String name, CounterDeals x, int n) {
        x.runs(0, 1);
        Due.is(name + ": ON", x.told(7), (1 << n) - 1);
        for (int g = 0; g < 6; g++) {
            Due.is(name + ": seat of " + g, x.about(g, 0, 2), g < n ? g : NONE);
        }
        Due.is(name + ": as many fit", x.fit((1 << n) - 1), 1);
        Due.is(name + ": one more does not", x.fit((1 << n + 1) - 1), 0);
    }

    /** "COUNTERS 0 to n - 1 (n 1 .. 4". */
    private static void asManyCountersAsN() {
        for (int n = 1; n <= 4; n++) {
            CounterDeals x = six();
            x.counters(n);
            firstSit("n " + n, x, n);
        }
    }

    /** "2 at first". */
    private static void twoAtFirst() {
        Due.is("told(0)", new CounterDeals().told(0), 2);
        Due.is("what it was", new CounterDeals().counters(4), 2);
        firstSit("n at first", six(), 2);
    }

    private static void nBecomesLessOrMore() {
        CounterDeals x = six();
        x.counters(4);
        x.runs(0, 1);
        x.counters(1);
        Due.is("the last SLICE stays as it was", x.told(7), 15);
        Due.is("its COUNTERS, too", x.about(3, 0, 2), 3);
        x.runs(0, 1);
        Due.is("one is ON then", x.told(7), 1);
        x.counters(3);
        x.runs(0, 1);
        Due.is("three are ON then", x.told(7), 7);
    }

    /** "KINDS of events 0 .. 7, each with a MASK". */
    private static void kindsHaveTheirOwnMasks() {
        CounterDeals x = new CounterDeals();
        for (int k = 0; k < 8; k++) {
            Due.is("MASK of " + k, x.masks(k, 15 - k), 15);
        }
        for (int k = 0; k < 8; k++) {
            Due.is("MASK of " + k + " then", x.masks(k, 0), 15 - k);
        }
    }

    /** "bits of COUNTERS 0 .. 3 on which it may sit": one bit, on either side of n. */
    private static void maskOfOneCounter() {
        for (int k = 0; k < 8; k += 7) {
            for (int c = 0; c < 4; c++) {
                for (int n = 1; n <= 4; n++) {
                    CounterDeals x = new CounterDeals();
                    x.counters(n);
                    x.masks(k, 1 << c);
                    x.group(0, 1, 0, 0, k);
                    Due.is("fit, bit " + c + ", n " + n, x.fit(1), c < n ? 1 : 0);
                    x.runs(0, 1);
                    Due.is("seat, bit " + c + ", n " + n, x.about(0, 0, 2), c < n ? c : NONE);
                }
            }
        }
    }

    private static void maskOfNone() {
        CounterDeals x = new CounterDeals();
        x.counters(4);
        x.masks(5, 0);
        x.group(0, 1, 0, 0, 5);
        Due.is("MASK 0 fits on none", x.fit(1), 0);
        x.runs(0, 2);
        Due.is("MASK 0 is never ON", x.times(0, 0, 1), 0);
    }

    /** "15 at first". */
    private static void maskFifteenAtFirst() {
        for (int k = 0; k < 8; k++) {
            CounterDeals x = new CounterDeals();
            Due.is("MASK at first", x.masks(k, 15), 15);
            x.counters(4);
            for (int e = 0; e < 4; e++) {
                Due.is("EVENT", e == 0 ? x.group(0, 1, 0, 0, k) : x.event(0, k), e);
            }
            Due.is("four of KIND " + k + " on all", x.fit(1), 1);
        }
    }

    /** "TASKS 0 on, as they come (never more than 6)": those that ENDED, too. */
    private static void tasksNeverMoreThanSix() {
        CounterDeals x = new CounterDeals();
        Due.is("one at first", x.told(1), 1);
        for (int t = 1; t < 6; t++) {
            Due.is("forks", x.forks(0), t);
            Due.is("TASKS", x.told(1), t + 1);
        }
        Due.is("a seventh", x.forks(0), FULL);
        Due.is("TASKS yet", x.told(1), 6);
        x.exits(5);
        Due.is("one that ENDED makes no room", x.forks(0), FULL);
        x.back();
        Due.is("three STATES are left", x.back(), 3);
        Due.is("TASKS", x.told(1), 5);
        Due.is("going back makes room", x.forks(4), 5);
        Due.is("with its own PARENT", x.task(5, 0), 4);
    }

    /** "0 is there at first; each other one has a PARENT, one ahead of it". */
    private static void parentsAhead() {
        CounterDeals x = new CounterDeals();
        Due.is("PARENT of 0", x.task(0, 0), NONE);
        for (int t = 1; t < 6; t++) {
            x.forks(t - 1);
            Due.is("PARENT of " + t, x.task(t, 0), t - 1);
        }
        Due.is("PARENT of 0 then", x.task(0, 0), NONE);
    }

    /** "0 .. 99; 0 at first in TASK 0". */
    private static void rateZeroAtFirst() {
        CounterDeals x = new CounterDeals();
        x.counters(4);
        x.group(0, 1, 0, 0, 0);
        x.event(0, 7);
        x.runs(0, 3);
        Due.is("RATE 0 counts nothing", x.count(0, 0, 0) + x.count(0, 1, 0), 0);
        Due.is("though it RUNS", x.times(0, 0, 1), 3);
        Due.is("SCALED is 0, not none", x.scaled(0, 0, 0), 0);
        Due.is("PEAK", x.about(0, 0, 1), 0);
        for (int k = 0; k < 8; k++) {
            Due.is("RATE of " + k, x.rates(0, k, 0), 0);
        }
    }

    private static void rateNinetyNine() {
        CounterDeals x = new CounterDeals();
        x.rates(0, 7, 99);
        x.group(0, 1, 0, 0, 7);
        x.runs(0, 20);
        Due.is("COUNT", x.count(0, 0, 0), 1980);
        Due.is("PEAK", x.about(0, 0, 1), 99);
        x.rates(0, 7, 0);
        x.runs(0, 1);
        Due.is("COUNT stays", x.count(0, 0, 0), 1980);
        Due.is("PEAK stays", x.about(0, 0, 1), 99);
    }

    /** "in a new one as in its PARENT then". */
    private static void ratesAsInTheParentThen() {
        CounterDeals x = new CounterDeals();
        x.rates(0, 0, 99);
        x.rates(0, 7, 1);
        x.forks(0);
        x.rates(0, 0, 50);
        x.rates(1, 7, 2);
        x.forks(1);
        x.forks(0);
        Due.is("RATE of 0 in 1", x.rates(1, 0, 99), 99);
        Due.is("RATE of 0 in 2, of its PARENT, not of 0", x.rates(2, 0, 0), 99);
        Due.is("RATE of 7 in 2", x.rates(2, 7, 0), 2);
        Due.is("RATE of 0 in 3", x.rates(3, 0, 0), 50);
        Due.is("RATE of 7 in 3", x.rates(3, 7, 0), 1);
        Due.is("RATE of 7 in 0", x.rates(0, 7, 0), 1);
    }

    /** "GROUPS 0 on, as they come (never more than 6)": whatever they are. */
    private static void groupsNeverMoreThanSix() {
        CounterDeals x = new CounterDeals();
        x.forks(0);
        for (int g = 0; g < 6; g++) {
            Due.is("group", x.group(g % 2, 1, g % 2, 0, 0), g);
            Due.is("GROUPS", x.told(2), g + 1);
        }
        Due.is("a seventh", x.group(0, 1, 0, 0, 0), FULL);
        Due.is("a seventh that is PINNED", x.group(1, 1, 1, 1, 7), FULL);
        x.lives(5, 0);
        Due.is("one that is not LIVE makes no room", x.group(0, 1, 0, 0, 0), FULL);
        x.back();
        x.back();
        Due.is("going back makes room", x.group(0, 5, 0, 1, 3), 5);
        Due.is("it is in THE QUEUE", x.of(5, 9), 3);
    }

    /** "EVENTS 0 on, 1 to 4 of them". */
    private static void eventsOneToFour() {
        CounterDeals x = new CounterDeals();
        x.group(0, 1, 0, 0, 3);
        x.group(0, 1, 0, 0, 4);
        Due.is("one at first", x.of(0, 5), 1);
        for (int e = 1; e < 4; e++) {
            Due.is("event", x.event(0, e), e);
            Due.is("EVENTS", x.of(0, 5), e + 1);
        }
        Due.is("a fifth", x.event(0, 0), FULL);
        Due.is("EVENTS yet", x.of(0, 5), 4);
        Due.is("another GROUP has room", x.event(1, 0), 1);
        x.back();
        x.back();
        Due.is("going back makes room", x.event(0, 7), 3);
        Due.is("its KIND", x.about(0, 3, 0), 7);
    }

    /** "each of a KIND (alike ones may be)". */
    private static void alikeEvents() {
        CounterDeals x = new CounterDeals();
        x.counters(4);
        x.rates(0, 6, 9);
        x.group(0, 1, 0, 0, 6);
        x.event(0, 6);
        x.event(0, 6);
        x.event(0, 6);
        x.runs(0, 1);
        for (int e = 0; e < 4; e++) {
            Due.is("KIND", x.about(0, e, 0), 6);
            Due.is("each on a COUNTER of its own", x.about(0, e, 2), e);
            Due.is("each counts", x.count(0, e, 0), 9);
        }
    }

    /** "One that is not LIVE WATCHES none". */
    private static void watchesNone() {
        CounterDeals x = new CounterDeals();
        x.forks(0);
        x.group(0, 1, 0, 1, 0);
        x.lives(0, 0);
        Due.is("its own", x.task(0, 2), 0);
        Due.is("one that comes of it", x.task(1, 2), 0);
        x.runs(0, 2);
        x.runs(1, 2);
        Due.is("ENABLED", x.times(0, NONE, 0), 0);
        Due.is("ON", x.told(7), 0);
        Due.is("TURN", x.of(0, 6), 0);
    }

    /** "a LIVE one WATCHES its own TASK": and if it does not INHERIT no other. */
    private static void watchesItsOwn() {
        CounterDeals x = new CounterDeals();
        x.forks(0);
        x.forks(1);
        x.group(1, 1, 0, 0, 0);
        Due.is("its PARENT", x.task(0, 2), 0);
        Due.is("its own", x.task(1, 2), 1);
        Due.is("one that comes of it", x.task(2, 2), 0);
    }

    /** "if it INHERITS, each from which its own is reached by PARENTS". */
    private static void watchesThoseThatComeOfIt() {
        CounterDeals x = new CounterDeals();
        for (int t = 0; t < 4; t++) {
            x.forks(t);
        }
        x.forks(0);
        for (int t = 0; t < 6; t++) {
            x.group(t, 1, t % 2, 1, 0);
        }
        int[] watchers = {1, 3, 7, 15, 31, 33};
        for (int t = 0; t < 6; t++) {
            Due.is("who WATCH " + t, x.task(t, 2), watchers[t]);
        }
        x.lives(1, 0);
        Due.is("one between is not LIVE: 0 is reached yet", x.task(4, 2), 29);
        x.runs(4, 1);
        for (int g = 0; g < 6; g++) {
            Due.is("ENABLED of " + g, x.times(g, 4, 0), 29 >> g & 1);
        }
    }

    /** "it is LIVE (at first) or not". */
    private static void liveAtFirst() {
        CounterDeals x = new CounterDeals();
        x.group(0, 1, 0, 0, 0);
        x.group(0, 1, 1, 0, 0);
        Due.is("LIVE", x.of(0, 4), 1);
        Due.is("LIVE, PINNED", x.of(1, 4), 1);
        Due.is("lives answers whether it was", x.lives(1, 0), 1);
        Due.is("and then", x.lives(1, 1), 0);
    }

    /** "THE QUEUE: all GROUPS that are not PINNED, as they came at first". */
    private static void theQueueAtFirst() {
        CounterDeals x = new CounterDeals();
        for (int g = 0; g < 6; g++) {
            x.group(0, 1, g == 0 || g == 3 ? 1 : 0, 0, 0);
        }
        int[] queue = {1, 2, 4, 5, NONE, NONE};
        int[] places = {NONE, 0, 1, NONE, 2, 3};
        for (int i = 0; i < 6; i++) {
            Due.is("queue " + i, x.queue(i), queue[i]);
            Due.is("place of " + i, x.of(i, 9), places[i]);
        }
        x.lives(1, 0);
        Due.is("one that is not LIVE stays", x.queue(0), 1);
        x.runs(0, 1);
        Due.is("and is stepped over", x.queue(0), 1);
        Due.is("the next went to the end", x.queue(3), 2);
    }

    private static void theQueueEmptyAndFull() {
        CounterDeals x = new CounterDeals();
        Due.is("empty", x.queue(0), NONE);
        x.group(0, 1, 1, 0, 0);
        Due.is("empty yet: PINNED", x.queue(0), NONE);
        x.runs(0, 3);
        Due.is("a SLICE with none in it", x.queue(0), NONE);
        CounterDeals y = six();
        for (int i = 0; i < 6; i++) {
            Due.is("full", y.queue(i), i);
        }
        Due.is("not so many", y.queue(6), NONE);
        y.runs(0, 5);
        int[] queue = {1, 2, 3, 4, 5, 0, NONE};
        for (int i = 0; i < 7; i++) {
            Due.is("full, one went to its end", y.queue(i), queue[i]);
        }
    }

    /** "each has a TURN (0 at first)". */
    private static void turnZeroAtFirst() {
        CounterDeals x = six();
        for (int g = 0; g < 6; g++) {
            Due.is("TURN", x.of(g, 6), 0);
        }
    }

    /** Three TASKS, a line; GROUP 0 counts 10 in each SLICE that it is ON. */
    private static CounterDeals line() {
        CounterDeals x = new CounterDeals();
        x.rates(0, 0, 10);
        x.forks(0);
        x.forks(1);
        x.group(0, 1, 0, 1, 0);
        x.runs(0, 1);
        x.runs(1, 2);
        x.runs(2, 4);
        return x;
    }

    private static void counted(String name, CounterDeals x, int in0, int in1, int in2) {
        int[] slices = {in0, in1, in2};
        for (int t = 0; t < 3; t++) {
            Due.is(name + ": COUNT in " + t, x.count(0, 0, t), 10 * slices[t]);
            Due.is(name + ": ENABLED in " + t, x.times(0, t, 0), slices[t]);
            Due.is(name + ": RUNNING in " + t, x.times(0, t, 1), slices[t]);
        }
        Due.is(name + ": COUNT of all", x.count(0, 0, NONE), 70);
        Due.is(name + ": ENABLED of all", x.times(0, NONE, 0), 7);
        Due.is(name + ": RUNNING of all", x.times(0, NONE, 1), 7);
    }

    /** "what each GROUP ENABLED, RUNNING, COUNTED in it comes to its PARENT's". */
    private static void endsIntoItsParent() {
        CounterDeals x = line();
        counted("ahead", x, 1, 2, 4);
        Due.is("exits(2)", x.exits(2), 1);
        counted("2 ENDED", x, 1, 6, 0);
        x.back();
        counted("back", x, 1, 2, 4);
    }

    private static void endsWithNothing() {
        CounterDeals x = new CounterDeals();
        x.forks(0);
        Due.is("no GROUP at all", x.exits(1), 0);
        x.group(0, 1, 0, 1, 0);
        x.forks(0);
        Due.is("a TASK that never ran", x.exits(2), 0);
        Due.is("nothing came", x.times(0, 0, 0) + x.count(0, 0, 0), 0);
        Due.is("SCALED none yet", x.scaled(0, 0, 0), NONE);
    }

    private static void endsOneBehindTheOther() {
        CounterDeals x = line();
        Due.is("exits(1): 2 has not", x.exits(1), NO);
        x.exits(2);
        Due.is("exits(1)", x.exits(1), 0);
        counted("both ENDED", x, 7, 0, 0);
        Due.is("exits(2) again", x.exits(2), NO);
        Due.is("exits(1) again", x.exits(1), NO);
        x.rates(0, 0, 0);
        x.runs(0, 1);
        Due.is("the PARENT goes on", x.times(0, 0, 0), 8);
    }

    /** "(RATES, a GROUP that is of it stay.)". */
    private static void endedLeavesRatesAndGroups() {
        CounterDeals x = line();
        x.group(2, 3, 1, 1, 7);
        x.rates(2, 7, 99);
        x.exits(2);
        Due.is("RATE", x.rates(2, 7, 98), 99);
        Due.is("RATE of the PARENT", x.rates(1, 7, 0), 0);
        Due.is("a GROUP that is of it", x.of(1, 0), 2);
        Due.is("is LIVE", x.of(1, 4), 1);
        Due.is("PARENT", x.task(2, 0), 1);
        Due.is("TASKS", x.told(1), 3);
        x.runs(1, 1);
        Due.is("it does not WATCH the PARENT", x.times(1, NONE, 0), 0);
    }

    /** "TOTALS of a GROUP are over all TASKS": ENDED ones, too; PEAK stays. */
    private static void endedStaysInTotals() {
        CounterDeals x = line();
        x.rates(2, 0, 90);
        x.runs(2, 1);
        int most = x.scaled(0, 0, 1);
        x.exits(2);
        Due.is("COUNT", x.count(0, 0, NONE), 160);
        Due.is("SCALED", x.scaled(0, 0, 0), 160);
        Due.is("MOST", x.scaled(0, 0, 1), most);
        Due.is("PEAK", x.about(0, 0, 1), 90);
    }
}
