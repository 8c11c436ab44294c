/** Each promise of the document, with answers worked out by hand. */
public final class PromisesTest {
    private static final int NONE = CounterDeals.NONE;
    private static final int BAD = CounterDeals.BAD;
    private static final int NO = CounterDeals.NO;
    private static final int FULL = CounterDeals.FULL;
    private static final int[] FAR = {-1, Integer.MIN_VALUE, Integer.MAX_VALUE};

    public static void main(String[] args) {
        promise1();
        promise2();
        promise3();
        promise4();
        promise5();
        promise6();
        promise7();
        promise8();
        promise9();
        promise10();
        promise11();
        promise12();
        promise13();
        promise14();
        promise15();
        promise16();
        promise17();
        promise18();
        promise19();
        promise20();
        promise21();
        promise22();
        promise23();
        promise24();
        promise25();
        promise26();
        promise27();
        promise28();
        Due.end();
    }

    private static int[] told(CounterDeals x) {
        int[] all = new int[9];
        for (int what = 0; what < 9; what++) {
            all[what] = x.told(what);
        }
        return all;
    }

    private static int[] of(CounterDeals x, int g) {
        int[] all = new int[11];
        for (int what = 0; what < 11; what++) {
            all[what] = x.of(g, what);
        }
        return all;
    }

    private static int[] refused(CounterDeals x) {
        int[] all = new int[5];
        for (int what = 0; what < 5; what++) {
            all[what] = x.refused(what);
        }
        return all;
    }

    private static void promise1() {
        CounterDeals x = new CounterDeals();
        Due.are("new: refused", refused(x), 0, 0, 0, 0, 0);
        Due.are("new: told", told(x), 2, 1, 0, 0, 0, 0, 0, 0, 1);
        Due.is("new: PARENT of TASK 0", x.task(0, 0), NONE);
        Due.is("new: TASK 0 has not ENDED", x.task(0, 1), 0);
        Due.is("new: none WATCHES TASK 0", x.task(0, 2), 0);
        Due.is("new: no GROUP 0", x.of(0, 0), BAD);
        Due.is("new: no TASK 1", x.task(1, 0), BAD);
        Due.is("new: THE QUEUE", x.queue(0), NONE);
        Due.is("new: SAMPLES", x.sample(0, 0), NONE);
        for (int k = 0; k < 8; k++) {
            Due.is("new: MASK " + k, x.masks(k, 15), 15);
            Due.is("new: RATE " + k, x.rates(0, k, 0), 0);
        }
    }

    private static void promise2() {
        CounterDeals x = new CounterDeals();
        Due.is("counters(1)", x.counters(1), 2);
        Due.is("counters(4)", x.counters(4), 1);
        Due.is("counters(4) again", x.counters(4), 4);
        Due.is("n", x.told(0), 4);
        Due.is("STATES", x.refused(4), 3);
        Due.is("counters(0)", x.counters(0), BAD);
        Due.is("counters(5)", x.counters(5), BAD);
        for (int far : FAR) {
            Due.is("counters far", x.counters(far), BAD);
        }
        Due.is("n stays", x.told(0), 4);
        Due.are("refused", refused(x), 5, 0, 0, 0, 3);
    }

    private static void promise3() {
        CounterDeals x = new CounterDeals();
        Due.is("masks(0, 0)", x.masks(0, 0), 15);
        Due.is("masks(0, 15)", x.masks(0, 15), 0);
        Due.is("masks(7, 5)", x.masks(7, 5), 15);
        Due.is("masks(7, 6)", x.masks(7, 6), 5);
        Due.is("masks(6, 6): another KIND's is its own", x.masks(6, 6), 15);
        Due.is("masks(8, 0)", x.masks(8, 0), BAD);
        Due.is("masks(0, 16)", x.masks(0, 16), BAD);
        for (int far : FAR) {
            Due.is("masks(far, 0)", x.masks(far, 0), BAD);
            Due.is("masks(0, far)", x.masks(0, far), BAD);
        }
        Due.is("masks(0, 1): it stayed", x.masks(0, 1), 15);
        Due.are("refused", refused(x), 8, 0, 0, 0, 5);
    }

    private static void promise4() {
        CounterDeals x = new CounterDeals();
        Due.is("rates(0, 0, 99)", x.rates(0, 0, 99), 0);
        Due.is("rates(0, 0, 1)", x.rates(0, 0, 1), 99);
        Due.is("rates(0, 7, 3)", x.rates(0, 7, 3), 0);
        x.forks(0);
        Due.is("rates(1, 7, 4): as in its PARENT", x.rates(1, 7, 4), 3);
        Due.is("rates(0, 7, 5): the PARENT's stays", x.rates(0, 7, 5), 3);
        x.exits(1);
        Due.is("rates(1, 7, 0): also of one that ENDED", x.rates(1, 7, 0), 4);
        Due.is("rates(2, 0, 0)", x.rates(2, 0, 0), BAD);
        Due.is("rates(0, 8, 0)", x.rates(0, 8, 0), BAD);
        Due.is("rates(0, 0, 100)", x.rates(0, 0, 100), BAD);
        for (int far : FAR) {
            Due.is("rates(far, 0, 0)", x.rates(far, 0, 0), BAD);
            Due.is("rates(0, far, 0)", x.rates(0, far, 0), BAD);
            Due.is("rates(0, 0, far)", x.rates(0, 0, far), BAD);
        }
        Due.is("rates(0, 0, 0): it stayed", x.rates(0, 0, 0), 1);
        Due.is("BAD", x.refused(0), 12);
    }

    private static void promise5() {
        CounterDeals x = new CounterDeals();
        x.rates(0, 2, 11);
        Due.is("forks(0)", x.forks(0), 1);
        x.rates(0, 2, 12);
        Due.is("forks(1)", x.forks(1), 2);
        Due.is("PARENT of 2", x.task(2, 0), 1);
        Due.is("RATE as in the PARENT then", x.rates(2, 2, 1), 11);
        Due.is("forks(3)", x.forks(3), BAD);
        for (int far : FAR) {
            Due.is("forks(far)", x.forks(far), BAD);
        }
        x.exits(2);
        Due.is("forks(2): it has ENDED", x.forks(2), NO);
        Due.is("forks(0) 3", x.forks(0), 3);
        Due.is("forks(3) 4", x.forks(3), 4);
        Due.is("forks(4) 5", x.forks(4), 5);
        Due.is("forks(0): six TASKS", x.forks(0), FULL);
        Due.is("forks(2): NO ahead of FULL", x.forks(2), NO);
        Due.is("forks(6): BAD ahead of FULL", x.forks(6), BAD);
        Due.is("TASKS", x.told(1), 6);
        Due.are("refused", refused(x), 5, 2, 1, 0, 5);
    }

    private static void promise6() {
        CounterDeals x = new CounterDeals();
        x.rates(0, 0, 10);
        x.counters(1);
        x.group(0, 1, 0, 1, 0);
        x.group(0, 1, 0, 1, 0);
        x.forks(0);
        x.forks(1);
        x.runs(0, 1);
        x.runs(1, 2);
        x.runs(2, 3);
        Due.is("exits(0)", x.exits(0), BAD);
        Due.is("exits(3)", x.exits(3), BAD);
        for (int far : FAR) {
            Due.is("exits(far)", x.exits(far), BAD);
        }
        Due.is("exits(1): TASK 2 has not ENDED", x.exits(1), NO);
        Due.is("exits(2)", x.exits(2), 1);
        Due.is("exits(2) again", x.exits(2), NO);
        Due.is("it has ENDED", x.task(2, 1), 1);
        // T 0: 0 is ON; 1: 1; 2: 0; 3: 1; 4: 0; 5: 1.
        Due.is("COUNT in 2", x.count(0, 0, 2), 0);
        Due.is("COUNT in 1", x.count(0, 0, 1), 20);
        Due.is("COUNT of GROUP 1 in 1", x.count(1, 0, 1), 30);
        Due.is("ENABLED in 1", x.times(0, 1, 0), 5);
        Due.is("RUNNING in 1", x.times(0, 1, 1), 2);
        Due.is("ENABLED in 2", x.times(0, 2, 0), 0);
        Due.is("RUNNING in 2", x.times(0, 2, 1), 0);
        Due.is("RATES stay", x.rates(2, 0, 10), 10);
        Due.is("runs(2, 1): it RUNS no more", x.runs(2, 1), NO);
        Due.is("forks(2): nothing comes of it", x.forks(2), NO);
        Due.is("a GROUP can be of it", x.group(2, 1, 0, 0, 0), 2);
        Due.is("which WATCHES it", x.task(2, 2), 7);
        Due.is("exits(1)", x.exits(1), 0);
        Due.is("COUNT in 0", x.count(0, 0, 0), 30);
        Due.is("TOTALS stay", x.count(0, 0, NONE), 30);
        Due.is("ENABLED in 0", x.times(0, 0, 0), 6);
        Due.is("RUNNING in 0", x.times(0, 0, 1), 3);
        Due.are("refused", refused(x), 5, 4, 0, 0, 5);
    }

    private static void promise7() {
        CounterDeals x = new CounterDeals();
        x.forks(0);
        Due.is("group(1, 5, 0, 1, 7)", x.group(1, 5, 0, 1, 7), 0);
        Due.are("of(0)", of(x, 0), 1, 5, 0, 1, 1, 1, 0, 0, 0, 0, 0);
        Due.is("KIND", x.about(0, 0, 0), 7);
        Due.is("PEAK", x.about(0, 0, 1), 0);
        Due.is("COUNTER", x.about(0, 0, 2), NONE);
        Due.is("group(0, 1, 1, 0, 0)", x.group(0, 1, 1, 0, 0), 1);
        Due.are("of(1)", of(x, 1), 0, 1, 1, 0, 1, 1, 0, 0, 0, NONE, 0);
        Due.is("group(0, 2, 0, 0, 1)", x.group(0, 2, 0, 0, 1), 2);
        Due.is("its place", x.of(2, 9), 1);
        Due.is("TASK 2", x.group(2, 1, 0, 0, 0), BAD);
        Due.is("WEIGHT 0", x.group(0, 0, 0, 0, 0), BAD);
        Due.is("WEIGHT 6", x.group(0, 6, 0, 0, 0), BAD);
        Due.is("PINNED 2", x.group(0, 1, 2, 0, 0), BAD);
        Due.is("INHERITS 2", x.group(0, 1, 0, 2, 0), BAD);
        Due.is("KIND 8", x.group(0, 1, 0, 0, 8), BAD);
        for (int far : FAR) {
            Due.is("TASK far", x.group(far, 1, 0, 0, 0), BAD);
            Due.is("WEIGHT far", x.group(0, far, 0, 0, 0), BAD);
            Due.is("PINNED far", x.group(0, 1, far, 0, 0), BAD);
            Due.is("INHERITS far", x.group(0, 1, 0, far, 0), BAD);
            Due.is("KIND far", x.group(0, 1, 0, 0, far), BAD);
        }
        Due.is("group 3", x.group(0, 3, 1, 1, 0), 3);
        Due.is("group 4", x.group(0, 3, 1, 1, 0), 4);
        Due.is("group 5", x.group(0, 3, 0, 1, 0), 5);
        Due.is("a seventh", x.group(0, 3, 0, 1, 0), FULL);
        Due.is("BAD ahead of FULL", x.group(0, 3, 0, 1, 8), BAD);
        Due.is("GROUPS", x.told(2), 6);
        Due.is("THE QUEUE", x.queue(2), 5);
        Due.are("refused", refused(x), 22, 0, 1, 0, 5);
    }

    private static void promise8() {
        CounterDeals x = new CounterDeals();
        x.rates(0, 3, 9);
        x.group(0, 1, 0, 0, 3);
        x.runs(0, 1);
        Due.is("event(0, 7)", x.event(0, 7), 1);
        Due.is("event(0, 3): alike ones may be", x.event(0, 3), 2);
        Due.is("event(0, 0)", x.event(0, 0), 3);
        Due.is("event(0, 0): a fifth", x.event(0, 0), FULL);
        Due.is("event(0, 8): BAD ahead of FULL", x.event(0, 8), BAD);
        Due.is("EVENTS", x.of(0, 5), 4);
        Due.is("KIND of 1", x.about(0, 1, 0), 7);
        Due.is("KIND of 2", x.about(0, 2, 0), 3);
        Due.is("a new one counted nothing", x.count(0, 2, NONE), 0);
        Due.is("a new one has no PEAK", x.about(0, 2, 1), 0);
        Due.is("a new one sat nowhere", x.about(0, 2, 2), NONE);
        Due.is("the first one counted", x.count(0, 0, NONE), 9);
        Due.is("event(1, 0)", x.event(1, 0), BAD);
        for (int far : FAR) {
            Due.is("event(far, 0)", x.event(far, 0), BAD);
            Due.is("event(0, far)", x.event(0, far), BAD);
        }
        Due.are("refused", refused(x), 8, 0, 1, 0, 5);
    }

    private static void promise9() {
        CounterDeals x = new CounterDeals();
        x.rates(0, 0, 20);
        x.group(0, 1, 0, 0, 0);
        Due.is("periods(0, 30)", x.periods(0, 30), 0);
        x.runs(0, 1);
        Due.is("LEFT", x.of(0, 8), 20);
        Due.is("periods(0, 200)", x.periods(0, 200), 30);
        Due.is("LEFT is 0 as a PERIOD is told", x.of(0, 8), 0);
        x.runs(0, 1);
        Due.is("LEFT", x.of(0, 8), 20);
        Due.is("periods(0, 200) again", x.periods(0, 200), 200);
        Due.is("LEFT is 0 again", x.of(0, 8), 0);
        Due.is("PERIOD", x.of(0, 7), 200);
        Due.is("periods(0, 0)", x.periods(0, 0), 200);
        Due.is("no PERIOD", x.of(0, 7), 0);
        x.runs(0, 20);
        Due.is("no LEFT without one", x.of(0, 8), 0);
        Due.is("no SAMPLES without one", x.told(4) + x.told(5), 0);
        Due.is("periods(0, 29)", x.periods(0, 29), BAD);
        Due.is("periods(0, 201)", x.periods(0, 201), BAD);
        Due.is("periods(0, 1)", x.periods(0, 1), BAD);
        Due.is("periods(1, 30)", x.periods(1, 30), BAD);
        for (int far : FAR) {
            Due.is("periods(0, far)", x.periods(0, far), BAD);
            Due.is("periods(far, 30)", x.periods(far, 30), BAD);
        }
        Due.are("refused", refused(x), 10, 0, 0, 0, 5);
    }

    private static void promise10() {
        CounterDeals x = new CounterDeals();
        Due.is("skids(0)", x.skids(0), 1);
        Due.is("skids(3)", x.skids(3), 0);
        Due.is("skids(2)", x.skids(2), 3);
        Due.is("skids(4)", x.skids(4), BAD);
        for (int far : FAR) {
            Due.is("skids(far)", x.skids(far), BAD);
        }
        Due.is("SKID", x.told(8), 2);
        Due.are("refused", refused(x), 4, 0, 0, 0, 3);
    }

    private static void promise11() {
        CounterDeals x = new CounterDeals();
        x.group(0, 1, 0, 0, 0);
        x.group(0, 1, 0, 0, 0);
        Due.is("lives(0, 1)", x.lives(0, 1), 1);
        Due.is("lives(0, 0)", x.lives(0, 0), 1);
        Due.is("lives(0, 0) again", x.lives(0, 0), 0);
        Due.is("LIVE", x.of(0, 4), 0);
        Due.is("it WATCHES none", x.task(0, 2), 2);
        x.runs(0, 1);
        Due.is("ENABLED", x.times(0, NONE, 0), 0);
        Due.is("ON", x.told(7), 2);
        Due.is("lives(0, 1) now", x.lives(0, 1), 0);
        Due.is("it WATCHES", x.task(0, 2), 3);
        Due.is("lives(2, 1)", x.lives(2, 1), BAD);
        Due.is("lives(0, 2)", x.lives(0, 2), BAD);
        for (int far : FAR) {
            Due.is("lives(far, 1)", x.lives(far, 1), BAD);
            Due.is("lives(0, far)", x.lives(0, far), BAD);
        }
        Due.is("BAD", x.refused(0), 8);
    }

    private static void promise12() {
        CounterDeals x = new CounterDeals();
        x.forks(0);
        Due.is("runs(0, 1)", x.runs(0, 1), 1);
        Due.is("runs(1, 20)", x.runs(1, 20), 21);
        Due.is("T", x.told(3), 21);
        Due.is("STATES: one a call", x.refused(4), 3);
        Due.is("runs(0, 0)", x.runs(0, 0), BAD);
        Due.is("runs(0, 21)", x.runs(0, 21), BAD);
        Due.is("runs(2, 1)", x.runs(2, 1), BAD);
        for (int far : FAR) {
            Due.is("runs(far, 1)", x.runs(far, 1), BAD);
            Due.is("runs(0, far)", x.runs(0, far), BAD);
        }
        x.exits(1);
        Due.is("runs(1, 1): it has ENDED", x.runs(1, 1), NO);
        Due.is("runs(1, 0): BAD ahead of NO", x.runs(1, 0), BAD);
        Due.is("T stays", x.told(3), 21);
        Due.are("refused", refused(x), 10, 1, 0, 0, 4);
    }

    private static void promise13() {
        CounterDeals x = new CounterDeals();
        x.forks(0);
        x.forks(1);
        x.forks(0);
        x.group(0, 1, 0, 1, 0);
        x.group(1, 1, 1, 1, 0);
        x.group(1, 1, 0, 0, 0);
        x.group(2, 1, 0, 1, 0);
        x.group(3, 1, 0, 0, 0);
        Due.is("task(0, 0)", x.task(0, 0), NONE);
        Due.is("task(2, 0)", x.task(2, 0), 1);
        Due.is("task(3, 0)", x.task(3, 0), 0);
        Due.is("task(0, 2): 0", x.task(0, 2), 1);
        Due.is("task(1, 2): 0, 1, 2", x.task(1, 2), 7);
        Due.is("task(2, 2): 0, 1, 3", x.task(2, 2), 11);
        Due.is("task(3, 2): 0, 4", x.task(3, 2), 17);
        Due.is("task(2, 1)", x.task(2, 1), 0);
        x.exits(2);
        Due.is("task(2, 1) ENDED", x.task(2, 1), 1);
        Due.is("task(1, 1)", x.task(1, 1), 0);
        Due.is("task(0, 3)", x.task(0, 3), BAD);
        Due.is("task(4, 0)", x.task(4, 0), BAD);
        for (int far : FAR) {
            Due.is("task(far, 0)", x.task(far, 0), BAD);
            Due.is("task(0, far)", x.task(0, far), BAD);
        }
        Due.is("BAD", x.refused(0), 8);
    }

    private static void promise14() {
        CounterDeals x = new CounterDeals();
        x.forks(0);
        x.rates(1, 2, 45);
        x.group(1, 3, 0, 1, 2);
        x.group(1, 2, 1, 0, 0);
        x.group(1, 1, 0, 0, 0);
        x.event(0, 1);
        x.counters(4);
        x.periods(0, 40);
        x.runs(1, 2);
        Due.are("of(0)", of(x, 0), 1, 3, 0, 1, 1, 2, 2, 40, 10, 0, 1);
        Due.are("of(1)", of(x, 1), 1, 2, 1, 0, 1, 1, 0, 0, 0, NONE, 1);
        Due.are("of(2)", of(x, 2), 1, 1, 0, 0, 1, 1, 0, 0, 0, 1, 1);
        x.runs(1, 1);
        Due.is("TURN", x.of(0, 6), 0);
        Due.is("its place", x.of(0, 9), 1);
        Due.is("the other's place", x.of(2, 9), 0);
        Due.is("of(3, 0)", x.of(3, 0), BAD);
        Due.is("of(0, 11)", x.of(0, 11), BAD);
        for (int far : FAR) {
            Due.is("of(far, 0)", x.of(far, 0), BAD);
            Due.is("of(0, far)", x.of(0, far), BAD);
        }
        Due.is("BAD", x.refused(0), 8);
    }

    private static void promise15() {
        CounterDeals x = new CounterDeals();
        x.rates(0, 4, 8);
        x.rates(0, 5, 9);
        x.masks(4, 2);
        x.group(0, 1, 0, 0, 4);
        x.event(0, 5);
        Due.is("PEAK: none was", x.about(0, 0, 1), 0);
        Due.is("COUNTER: none yet", x.about(0, 0, 2), NONE);
        x.runs(0, 1);
        Due.is("KIND 0", x.about(0, 0, 0), 4);
        Due.is("KIND 1", x.about(0, 1, 0), 5);
        Due.is("PEAK 0", x.about(0, 0, 1), 8);
        Due.is("PEAK 1", x.about(0, 1, 1), 9);
        Due.is("COUNTER 0", x.about(0, 0, 2), 1);
        Due.is("COUNTER 1", x.about(0, 1, 2), 0);
        x.rates(0, 4, 7);
        x.rates(0, 5, 10);
        x.runs(0, 1);
        Due.is("PEAK 0 stays", x.about(0, 0, 1), 8);
        Due.is("PEAK 1 is greater", x.about(0, 1, 1), 10);
        x.lives(0, 0);
        Due.is("COUNTER is of the last SLICE", x.about(0, 0, 2), 1);
        x.runs(0, 1);
        Due.is("COUNTER: it was not ON", x.about(0, 0, 2), NONE);
        Due.is("about(0, 2, 0)", x.about(0, 2, 0), BAD);
        Due.is("about(1, 0, 0)", x.about(1, 0, 0), BAD);
        Due.is("about(0, 0, 3)", x.about(0, 0, 3), BAD);
        for (int far : FAR) {
            Due.is("about(far, 0, 0)", x.about(far, 0, 0), BAD);
            Due.is("about(0, far, 0)", x.about(0, far, 0), BAD);
            Due.is("about(0, 0, far)", x.about(0, 0, far), BAD);
        }
        Due.is("BAD", x.refused(0), 12);
    }

    private static void promise16() {
        CounterDeals x = new CounterDeals();
        x.rates(0, 0, 5);
        x.rates(0, 1, 6);
        x.forks(0);
        x.rates(1, 0, 50);
        x.group(0, 1, 0, 1, 0);
        x.event(0, 1);
        x.runs(0, 3);
        x.runs(1, 2);
        Due.is("count(0, 0, 0)", x.count(0, 0, 0), 15);
        Due.is("count(0, 0, 1)", x.count(0, 0, 1), 100);
        Due.is("count(0, 0, NONE)", x.count(0, 0, NONE), 115);
        Due.is("count(0, 1, 0)", x.count(0, 1, 0), 18);
        Due.is("count(0, 1, 1)", x.count(0, 1, 1), 12);
        Due.is("count(0, 1, NONE)", x.count(0, 1, NONE), 30);
        Due.is("count(1, 0, 0)", x.count(1, 0, 0), BAD);
        Due.is("count(0, 2, 0)", x.count(0, 2, 0), BAD);
        Due.is("count(0, 0, 2)", x.count(0, 0, 2), BAD);
        Due.is("count(0, 0, -2)", x.count(0, 0, -2), BAD);
        Due.is("count(0, 0, MIN)", x.count(0, 0, Integer.MIN_VALUE), BAD);
        Due.is("count(0, 0, MAX)", x.count(0, 0, Integer.MAX_VALUE), BAD);
        for (int far : FAR) {
            Due.is("count(far, 0, 0)", x.count(far, 0, 0), BAD);
            Due.is("count(0, far, 0)", x.count(0, far, 0), BAD);
        }
        Due.is("BAD", x.refused(0), 12);
    }

    private static void promise17() {
        CounterDeals x = new CounterDeals();
        x.forks(0);
        x.counters(1);
        x.group(0, 2, 0, 1, 0);
        x.group(0, 1, 0, 1, 0);
        x.runs(0, 4);
        x.runs(1, 3);
        // ON: 0 0 1 0 | 0 1 0
        Due.is("times(0, 0, 0)", x.times(0, 0, 0), 4);
        Due.is("times(0, 0, 1)", x.times(0, 0, 1), 3);
        Due.is("times(0, 1, 0)", x.times(0, 1, 0), 3);
        Due.is("times(0, 1, 1)", x.times(0, 1, 1), 2);
        Due.is("times(0, NONE, 0)", x.times(0, NONE, 0), 7);
        Due.is("times(0, NONE, 1)", x.times(0, NONE, 1), 5);
        Due.is("times(1, NONE, 1)", x.times(1, NONE, 1), 2);
        Due.is("times(2, 0, 0)", x.times(2, 0, 0), BAD);
        Due.is("times(0, 2, 0)", x.times(0, 2, 0), BAD);
        Due.is("times(0, -2, 0)", x.times(0, -2, 0), BAD);
        Due.is("times(0, 0, 2)", x.times(0, 0, 2), BAD);
        for (int far : FAR) {
            Due.is("times(far, 0, 0)", x.times(far, 0, 0), BAD);
            Due.is("times(0, 0, far)", x.times(0, 0, far), BAD);
        }
        Due.is("BAD", x.refused(0), 10);
    }

    private static void promise18() {
        CounterDeals x = new CounterDeals();
        x.counters(1);
        x.rates(0, 0, 10);
        x.group(0, 2, 0, 1, 0);
        x.group(0, 1, 0, 1, 0);
        Due.is("SCALED: RUNNING is 0", x.scaled(0, 0, 0), NONE);
        Due.is("MOST: nothing yet", x.scaled(0, 0, 1), 0);
        x.runs(0, 2);
        Due.is("SCALED of one never ON", x.scaled(1, 0, 0), NONE);
        Due.is("MOST of one never ON: no PEAK", x.scaled(1, 0, 1), 0);
        x.rates(0, 0, 3);
        x.runs(0, 2);
        // GROUP 0: 10 10 - 3, GROUP 1: - - 3 -
        Due.is("SCALED: 23 times 4 by 3, cut", x.scaled(0, 0, 0), 30);
        Due.is("MOST: 23 and 1 times 10", x.scaled(0, 0, 1), 33);
        Due.is("SCALED: 3 times 4 by 1", x.scaled(1, 0, 0), 12);
        Due.is("MOST: 3 and 3 times 3", x.scaled(1, 0, 1), 12);
        x.forks(0);
        x.runs(1, 1);
        // GROUP 0: 10 10 - 3 | 3
        Due.is("SCALED: all TOTALS", x.scaled(0, 0, 0), 26 * 5 / 4);
        Due.is("MOST: all TOTALS", x.scaled(0, 0, 1), 36);
        Due.is("scaled(2, 0, 0)", x.scaled(2, 0, 0), BAD);
        Due.is("scaled(0, 1, 0)", x.scaled(0, 1, 0), BAD);
        Due.is("scaled(0, 0, 2)", x.scaled(0, 0, 2), BAD);
        for (int far : FAR) {
            Due.is("scaled(far, 0, 0)", x.scaled(far, 0, 0), BAD);
            Due.is("scaled(0, far, 0)", x.scaled(0, far, 0), BAD);
            Due.is("scaled(0, 0, far)", x.scaled(0, 0, far), BAD);
        }
        Due.is("BAD", x.refused(0), 12);
        promise18Long();
    }

    /** COUNT times ENABLED goes far beyond an int. */
    private static void promise18Long() {
        CounterDeals x = new CounterDeals();
        x.counters(1);
        x.rates(0, 0, 99);
        x.group(0, 1, 0, 1, 0);
        x.group(0, 1, 0, 1, 0);
        Due.type(x, "r0 20;".repeat(20));
        for (int i = 0; i < 300; i++) {
            Due.is("does()", x.does(), 20);
        }
        Due.is("COUNT", x.count(0, 0, NONE), 60000 * 99);
        Due.is("SCALED", x.scaled(0, 0, 0), 120000 * 99);
        Due.is("MOST", x.scaled(0, 0, 1), 120000 * 99);
    }

    private static void promise19() {
        CounterDeals x = new CounterDeals();
        Due.is("fit(0): no bits", x.fit(0), 1);
        Due.is("fit(1): no GROUP 0", x.fit(1), BAD);
        x.masks(0, 1);
        x.masks(1, 3);
        x.masks(2, 4);
        x.masks(3, 0);
        x.group(0, 1, 0, 0, 0);
        x.group(0, 1, 0, 0, 1);
        x.group(0, 1, 0, 0, 1);
        x.group(0, 1, 0, 0, 2);
        x.group(0, 1, 0, 0, 3);
        x.group(0, 1, 0, 0, 7);
        Due.is("0 and 1", x.fit(3), 1);
        Due.is("1 and 2", x.fit(6), 1);
        Due.is("0, 1 and 2: three on two", x.fit(7), 0);
        Due.is("3: beyond n", x.fit(8), 0);
        Due.is("4: on none", x.fit(16), 0);
        x.counters(4);
        Due.is("0, 1 and 3", x.fit(11), 1);
        Due.is("0, 1 and 2 on COUNTERS 0, 1", x.fit(7), 0);
        Due.is("0, 1, 3 and 5", x.fit(43), 1);
        Due.is("0, 1, 2, 3, 5: five on four", x.fit(47), 0);
        x.lives(0, 0);
        Due.is("0 that is not LIVE", x.fit(3), 1);
        x.event(0, 0);
        Due.is("0 with two alike on one", x.fit(1), 0);
        Due.is("all six", x.fit(63), 0);
        Due.is("fit(64)", x.fit(64), BAD);
        Due.is("fit(65)", x.fit(65), BAD);
        for (int far : FAR) {
            Due.is("fit(far)", x.fit(far), BAD);
        }
        Due.is("BAD", x.refused(0), 6);
        Due.is("no S", x.back(), 4);
    }

    private static void promise20() {
        CounterDeals x = new CounterDeals();
        x.group(0, 1, 0, 0, 0);
        x.group(0, 1, 1, 0, 0);
        x.group(0, 1, 0, 0, 0);
        x.group(0, 1, 0, 0, 0);
        Due.are("THE QUEUE", queue(x), 0, 2, 3, NONE);
        x.runs(0, 1);
        Due.are("THE QUEUE", queue(x), 2, 3, 0, NONE);
        x.lives(2, 0);
        Due.are("one that is not LIVE stays", queue(x), 2, 3, 0, NONE);
        for (int far : new int[] {-1, -2, Integer.MIN_VALUE}) {
            Due.is("queue(far)", x.queue(far), BAD);
        }
        Due.is("queue(MAX)", x.queue(Integer.MAX_VALUE), NONE);
        Due.is("BAD", x.refused(0), 3);
    }

    private static int[] queue(CounterDeals x) {
        return new int[] {x.queue(0), x.queue(1), x.queue(2), x.queue(3)};
    }

    private static void promise21() {
        CounterDeals x = new CounterDeals();
        x.rates(0, 0, 60);
        x.group(0, 1, 1, 1, 1);
        x.group(0, 1, 1, 1, 0);
        x.periods(1, 60);
        x.forks(0);
        x.runs(0, 1);
        Due.is("it waits", x.sample(0, 0), NONE);
        x.runs(1, 1);
        Due.is("GROUP", x.sample(0, 0), 1);
        Due.is("TASK in which it is TOLD", x.sample(0, 1), 1);
        Due.is("SLICE in which it is TOLD", x.sample(0, 2), 1);
        Due.is("not so many", x.sample(1, 0), NONE);
        Due.is("sample(MAX, 2)", x.sample(Integer.MAX_VALUE, 2), NONE);
        Due.is("sample(-1, 0)", x.sample(-1, 0), BAD);
        Due.is("sample(MIN, 0)", x.sample(Integer.MIN_VALUE, 0), BAD);
        Due.is("sample(0, 3)", x.sample(0, 3), BAD);
        Due.is("sample(9, 3): BAD, not NONE", x.sample(9, 3), BAD);
        for (int far : FAR) {
            Due.is("sample(0, far)", x.sample(0, far), BAD);
        }
        Due.is("BAD", x.refused(0), 7);
    }

    private static void promise22() {
        CounterDeals x = new CounterDeals();
        x.counters(3);
        x.forks(0);
        x.rates(0, 0, 90);
        x.group(0, 1, 1, 1, 1);
        x.group(1, 1, 0, 1, 0);
        x.group(0, 1, 0, 1, 0);
        x.periods(2, 30);
        x.skids(2);
        x.runs(0, 7);
        Due.are("told", told(x), 3, 2, 3, 7, 12, 6, 3, 5, 2);
        x.runs(1, 1);
        // TASK 1 has RATE 0: no SAMPLE more, but three are due.
        Due.are("told", told(x), 3, 2, 3, 8, 12, 3, 6, 7, 2);
        Due.is("told(9)", x.told(9), BAD);
        for (int far : FAR) {
            Due.is("told(far)", x.told(far), BAD);
        }
        Due.is("BAD", x.refused(0), 4);
    }

    private static void promise23() {
        CounterDeals x = new CounterDeals();
        Due.is("type(0)", x.type(0), 1);
        Due.is("type(127)", x.type(127), 2);
        Due.is("type(128)", x.type(128), BAD);
        for (int far : FAR) {
            Due.is("type(far)", x.type(far), BAD);
        }
        for (int i = 3; i <= 120; i++) {
            Due.is("type(32)", x.type(32), i);
        }
        Due.is("a byte beyond 120", x.type(32), FULL);
        Due.is("BAD ahead of FULL", x.type(128), BAD);
        Due.are("refused; no S", refused(x), 5, 0, 1, 120, 0);
    }

    private static void promise24() {
        CounterDeals x = new CounterDeals();
        Due.is("clear()", x.clear(), 0);
        Due.type(x, "f0;");
        Due.is("clear() of three", x.clear(), 3);
        Due.is("bytes", x.refused(3), 0);
        Due.is("does()", x.does(), -10);
        Due.is("type", x.type('f'), 1);
        Due.is("no S", x.refused(4), 0);
    }

    private static void promise25() {
        CounterDeals x = new CounterDeals();
        Due.is("does()", Due.does(x, "m 3 5;c0 2 9;f0;g1 2 0 1 2 3;r1 4;"), 5);
        Due.is("one STATE for all", x.refused(4), 1);
        Due.is("THE TEXT stays", x.refused(3), 34);
        Due.is("MASK", x.masks(3, 15), 5);
        Due.are("GROUP", of(x, 0), 1, 2, 0, 1, 1, 2, 0, 0, 0, 0, 1);
        Due.is("COUNT", x.count(0, 0, 1), 36);
        Due.is("T", x.told(3), 4);
        long digest = x.digest();
        Due.is("a FAULT", x.clear() + x.does(), 34 - 10);
        Due.is("an ORDER that ends all", Due.does(x, "f0;f1;r9 1;"), -1002);
        x.clear();
        Due.type(x, "m 3 5;c0 2 9;f0;g1 2 0 1 2 3;r1 4;");
        Due.is("nothing is done, no S, nothing counts", x.digest(), digest);
    }

    private static void promise26() {
        CounterDeals x = new CounterDeals();
        Due.is("none", x.back(), NO);
        x.counters(3);
        x.counters(4);
        x.type('f');
        Due.is("back()", x.back(), 1);
        Due.is("n", x.told(0), 3);
        Due.is("back()", x.back(), 0);
        Due.is("n", x.told(0), 2);
        Due.is("back()", x.back(), NO);
        Due.are("THE TEXT and how often refused stay", refused(x), 0, 2, 0, 1, 0);
    }

    private static void promise27() {
        CounterDeals x = new CounterDeals();
        x.counters(0);
        x.told(-1);
        x.refused(5);
        for (int far : FAR) {
            Due.is("refused(far)", x.refused(far), BAD);
        }
        x.back();
        x.back();
        for (int i = 0; i < 7; i++) {
            x.group(0, 1, 1, 0, 0);
        }
        Due.type(x, "abc");
        Due.are("refused", refused(x), 6, 2, 1, 3, 5);
        Due.are("asking counts nothing", refused(x), 6, 2, 1, 3, 5);
    }

    private static void promise28() {
        Due.is("digest of a new object", new CounterDeals().digest(), hash(0, 0, 0, 0, 0,
            2, 1, 0, 0, 0, 0, 0, 0, 1, 15, 15, 15, 15, 15, 15, 15, 15,
            -1, 0, 0, 0, 0, 0, 0, 0, 0, 0, 0));
        CounterDeals x = new CounterDeals();
        x.back();
        x.back();
        x.counters(4);
        x.masks(1, 14);
        x.rates(0, 0, 40);
        x.rates(0, 1, 7);
        x.group(0, 2, 0, 1, 0);
        x.event(0, 1);
        x.periods(0, 30);
        x.group(0, 1, 1, 0, 2);
        x.forks(0);
        x.runs(0, 2);
        x.rates(1, 1, 9);
        x.runs(1, 1);
        x.skids(3);
        x.type('f');
        x.counters(9);
        x.counters(0);
        x.told(9);
        for (int i = 0; i < 4; i++) {
            x.event(1, 2);
        }
        long due = hash(3, 2, 1, 1, 5,
            4, 2, 2, 3, 2, 2, 0, 1, 3,
            15, 14, 15, 15, 15, 15, 15, 15,
            -1, 0, 3, 40, 7, 0, 0, 0, 0, 0, 0,
            0, 0, 1, 40, 9, 0, 0, 0, 0, 0, 0,
            0, 2, 0, 1, 1, 2, 1, 30, 0, 0, 1,
            0, 40, 0, 80, 40, 120, 120,
            1, 9, 1, 14, 9, 23, 23,
            2, 2, 1, 1,
            0, 1, 1, 0, 1, 4, 0, 0, 0, -1, 0,
            2, 0, -1, 0, 0, 0, 0,
            2, 0, -1, 0, 0, 0, 0,
            2, 0, -1, 0, 0, 0, 0,
            2, 0, -1, 0, 0, 0, 0,
            2, 2, 0, 0,
            0, 0, 1, 0, 1, 2);
        Due.is("digest", x.digest(), due);
        Due.is("digest changes nothing", x.digest(), due);
        promise28Shared();
    }

    /** Two GROUPS on one COUNTER: RUNNING is not ENABLED, MOST is not SCALED. */
    private static void promise28Shared() {
        CounterDeals x = new CounterDeals();
        x.counters(1);
        x.rates(0, 0, 10);
        x.rates(0, 1, 4);
        x.group(0, 1, 0, 0, 0);
        x.group(0, 1, 0, 0, 1);
        x.runs(0, 2);
        x.rates(0, 0, 7);
        x.runs(0, 1);
        Due.is("digest of two on one", x.digest(), hash(0, 0, 0, 0, 5,
            1, 1, 2, 3, 0, 0, 0, 1, 1,
            15, 15, 15, 15, 15, 15, 15, 15,
            -1, 0, 3, 7, 4, 0, 0, 0, 0, 0, 0,
            0, 1, 0, 0, 1, 1, 0, 0, 0, 1, 1,
            0, 10, 0, 17, 25, 27,
            3, 2,
            0, 1, 0, 0, 1, 1, 0, 0, 0, 0, 0,
            1, 4, -1, 4, 12, 12,
            3, 1));
    }

    private static long hash(int... all) {
        long h = 2707;
        for (int v : all) {
            h = 31 * h + v;
        }
        return h;
    }
}
