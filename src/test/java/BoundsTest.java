import java.util.function.IntFunction;
import java.util.function.Supplier;
import java.util.function.ToIntFunction;

/**
 * Each number of each call: every one that is taken, the first that is refused
 * on either side and some far ones; which refusal comes first; and that a
 * refused call changes nothing but how often. On an object that is new, on one
 * in the midst of its work and on one that is full.
 */
public final class BoundsTest {
    private static final int NONE = CounterDeals.NONE;
    private static final int BAD = CounterDeals.BAD;
    private static final int NO = CounterDeals.NO;
    private static final int FULL = CounterDeals.FULL;
    private static final int MOST = Integer.MAX_VALUE;
    private static final Supplier<CounterDeals> NEW = CounterDeals::new;
    private static final Supplier<CounterDeals> BUSY = BoundsTest::busy;
    private static final Supplier<CounterDeals> WHOLE = BoundsTest::whole;

    /** How a call that is taken is to be: it leaves a STATE, or is asked only. */
    private enum Sort { TOLD_S, ASKED, NEITHER }

    public static void main(String[] args) {
        themselves();
        newTold();
        newAsked();
        busyTold();
        busyGroups();
        busyAsked();
        busyCounts();
        wholeTold();
        wholeAsked();
        refusedFirst();
        ended();
        Due.end();
    }

    /** TASKS 0, 1, 2; GROUPS 0 (with EVENTS 0, 1) to 3; all refused once; 4 STATES. */
    private static CounterDeals busy() {
        CounterDeals x = new CounterDeals();
        x.back();
        x.does();
        x.told(9);
        Due.does(x, "c0 0 70;c0 1 9;f0;f0;g0 2 0 1 0 1;g0 1 1 1 2;g1 3 0 0 0;g2 5 0 1 3;r0 3;");
        x.counters(3);
        x.periods(0, 30);
        x.runs(0, 2);
        x.clear();
        Due.type(x, "f0;c2 7 3;r2 2;");
        return x;
    }

    /** As many TASKS, GROUPS, EVENTS, SAMPLES, STATES and bytes as can be; TASKS 4, 5 have ENDED. */
    private static CounterDeals whole() {
        CounterDeals x = new CounterDeals();
        Due.does(x, "c0 0 99;c0 7 50;f0;f1;f2;f0;f0;g0 1 1 1 0;g0 2 0 1 7;g3 1 0 1 0;g0 5 0 0 7;");
        Due.does(x, "g5 5 0 1 0 1 2 3;g0 1 0 1 0 7 6 5;");
        for (int g = 0; g < 4; g++) {
            for (int e = 1; e < 4; e++) {
                x.event(g, g == 0 ? 0 : 7);
            }
            x.periods(g, 30 + g);
        }
        x.counters(4);
        x.skids(3);
        x.runs(3, 20);
        x.exits(5);
        x.exits(4);
        Due.does(x, "r0 20;r1 2;".repeat(10) + "m3 9;m4 8;");
        return x;
    }

    private static void themselves() {
        CounterDeals x = busy();
        Due.is("busy: BAD", x.refused(0), 1);
        Due.is("busy: NO", x.refused(1), 1);
        Due.is("busy: STATES", x.refused(4), 4);
        Due.is("busy: SAMPLES kept", x.told(4), 2);
        Due.is("busy: SAMPLES wait", x.told(5), 2);
        CounterDeals y = whole();
        Due.is("full: TASKS", y.told(1), 6);
        Due.is("full: GROUPS", y.told(2), 6);
        for (int g = 0; g < 6; g++) {
            Due.is("full: EVENTS of " + g, y.of(g, 5), 4);
        }
        Due.is("full: SAMPLES kept", y.told(4), 12);
        Due.holds("full: SAMPLES LOST", y.told(6) > 0);
        Due.holds("full: SAMPLES wait", y.told(5) > 0);
        Due.is("full: bytes", y.refused(3), 120);
        Due.is("full: STATES", y.refused(4), 5);
        Due.is("full: 4 has ENDED", y.task(4, 1), 1);
        Due.is("full: nothing refused", y.refused(0) + y.refused(1) + y.refused(2), 0);
    }

    private static boolean isRefusal(int answer) {
        return answer == BAD || answer == NO || answer == FULL;
    }

    private static void taken(String name, Supplier<CounterDeals> made, ToIntFunction<CounterDeals> call,
            Sort sort) {
        CounterDeals x = made.get();
        CounterDeals y = made.get();
        int answer = call.applyAsInt(x);
        Due.holds(name + " is taken, answered " + answer, !isRefusal(answer));
        for (int what = 0; what < 3; what++) {
            Due.is(name + ": how often, " + what, x.refused(what), y.refused(what));
        }
        int more = sort == Sort.TOLD_S ? 1 : 0;
        Due.is(name + ": STATES", x.refused(4), Math.min(y.refused(4) + more, 5));
        if (sort == Sort.ASKED) {
            Due.is(name + ": asked only", x.digest(), y.digest());
        }
    }

    private static void bad(String name, Supplier<CounterDeals> made, ToIntFunction<CounterDeals> call) {
        Refusal.is(name, made, call, BAD);
    }

    /** first to last are taken, all others BAD; first beyond last: all are BAD. */
    private static void bounds(String name, Supplier<CounterDeals> made, int first, int last, Sort sort,
            IntFunction<ToIntFunction<CounterDeals>> call) {
        for (int v = first; v <= last; v++) {
            taken(name + " " + v, made, call.apply(v), sort);
        }
        int[] others = {first - 1, last + 1, first - 100, last + 256, last + 65536, Integer.MIN_VALUE, MOST};
        for (int v : others) {
            bad(name + " " + v, made, call.apply(v));
        }
    }

    private static void told(String name, Supplier<CounterDeals> made, int first, int last,
            IntFunction<ToIntFunction<CounterDeals>> call) {
        bounds(name, made, first, last, Sort.TOLD_S, call);
    }

    private static void asked(String name, Supplier<CounterDeals> made, int first, int last,
            IntFunction<ToIntFunction<CounterDeals>> call) {
        bounds(name, made, first, last, Sort.ASKED, call);
    }

    private static void newTold() {
        told("new counters v", NEW, 1, 4, v -> x -> x.counters(v));
        told("new masks k", NEW, 0, 7, k -> x -> x.masks(k, 15));
        told("new masks v", NEW, 0, 15, v -> x -> x.masks(7, v));
        told("new rates t", NEW, 0, 0, t -> x -> x.rates(t, 0, 0));
        told("new forks t", NEW, 0, 0, t -> x -> x.forks(t));
        told("new exits t", NEW, 0, -1, t -> x -> x.exits(t));
        bad("new exits 0", NEW, x -> x.exits(0));
        told("new group t", NEW, 0, 0, t -> x -> x.group(t, 1, 0, 0, 0));
        told("new event g", NEW, 0, -1, g -> x -> x.event(g, 0));
        told("new periods g", NEW, 0, -1, g -> x -> x.periods(g, 30));
        bad("new periods 0, 0", NEW, x -> x.periods(0, 0));
        told("new skids v", NEW, 0, 3, v -> x -> x.skids(v));
        told("new lives g", NEW, 0, -1, g -> x -> x.lives(g, 1));
        told("new runs t", NEW, 0, 0, t -> x -> x.runs(t, 1));
        told("new runs n", NEW, 1, 20, n -> x -> x.runs(0, n));
        bounds("new type c", NEW, 0, 127, Sort.NEITHER, c -> x -> x.type(c));
        Refusal.is("new back", NEW, x -> x.back(), NO);
    }

    private static void newAsked() {
        asked("new task t", NEW, 0, 0, t -> x -> x.task(t, 0));
        asked("new of g", NEW, 0, -1, g -> x -> x.of(g, 0));
        asked("new about g", NEW, 0, -1, g -> x -> x.about(g, 0, 0));
        asked("new count g", NEW, 0, -1, g -> x -> x.count(g, 0, 0));
        asked("new times g", NEW, 0, -1, g -> x -> x.times(g, 0, 0));
        asked("new scaled g", NEW, 0, -1, g -> x -> x.scaled(g, 0, 0));
        asked("new fit", NEW, 0, 0, bits -> x -> x.fit(bits));
        asked("new told what", NEW, 0, 8, what -> x -> x.told(what));
        asked("new refused what", NEW, 0, 4, what -> x -> x.refused(what));
        Due.is("new queue(0): not so many", NEW.get().queue(0), NONE);
        Due.is("new sample(0, 0): not so many", NEW.get().sample(0, 0), NONE);
        Due.is("new clear: it had none", NEW.get().clear(), 0);
    }

    private static void busyTold() {
        told("counters v", BUSY, 1, 4, v -> x -> x.counters(v));
        told("masks k", BUSY, 0, 7, k -> x -> x.masks(k, 3));
        told("masks v", BUSY, 0, 15, v -> x -> x.masks(0, v));
        told("rates t", BUSY, 0, 2, t -> x -> x.rates(t, 3, 5));
        told("rates k", BUSY, 0, 7, k -> x -> x.rates(1, k, 5));
        told("rates v", BUSY, 0, 99, v -> x -> x.rates(2, 0, v));
        told("forks t", BUSY, 0, 2, t -> x -> x.forks(t));
        told("exits t", BUSY, 1, 2, t -> x -> x.exits(t));
        told("skids v", BUSY, 0, 3, v -> x -> x.skids(v));
        told("runs t", BUSY, 0, 2, t -> x -> x.runs(t, 1));
        told("runs n", BUSY, 1, 20, n -> x -> x.runs(1, n));
        bounds("type c", BUSY, 0, 127, Sort.NEITHER, c -> x -> x.type(c));
        taken("does", BUSY, x -> x.does(), Sort.TOLD_S);
        taken("clear", BUSY, x -> x.clear(), Sort.NEITHER);
    }

    private static void busyGroups() {
        told("group t", BUSY, 0, 2, t -> x -> x.group(t, 1, 0, 0, 0));
        told("group w", BUSY, 1, 5, w -> x -> x.group(0, w, 0, 0, 0));
        told("group pinned", BUSY, 0, 1, pinned -> x -> x.group(0, 1, pinned, 0, 0));
        told("group inherits", BUSY, 0, 1, inherits -> x -> x.group(0, 1, 0, inherits, 0));
        told("group k", BUSY, 0, 7, k -> x -> x.group(0, 1, 1, 1, k));
        told("event g", BUSY, 0, 3, g -> x -> x.event(g, 0));
        told("event k", BUSY, 0, 7, k -> x -> x.event(0, k));
        told("periods g", BUSY, 0, 3, g -> x -> x.periods(g, 60));
        told("periods v", BUSY, 30, 200, v -> x -> x.periods(0, v));
        taken("periods 0: none", BUSY, x -> x.periods(0, 0), Sort.TOLD_S);
        bad("periods 1: neither none nor 30", BUSY, x -> x.periods(0, 1));
        bad("periods -1", BUSY, x -> x.periods(0, -1));
        told("lives g", BUSY, 0, 3, g -> x -> x.lives(g, 0));
        told("lives on", BUSY, 0, 1, on -> x -> x.lives(3, on));
    }

    private static void busyAsked() {
        asked("task t", BUSY, 0, 2, t -> x -> x.task(t, 2));
        asked("task what", BUSY, 0, 2, what -> x -> x.task(1, what));
        asked("of g", BUSY, 0, 3, g -> x -> x.of(g, 10));
        asked("of what", BUSY, 0, 10, what -> x -> x.of(3, what));
        asked("fit", BUSY, 0, 15, bits -> x -> x.fit(bits));
        bad("fit: one that is there and one that is not", BUSY, x -> x.fit(17));
        asked("told what", BUSY, 0, 8, what -> x -> x.told(what));
        asked("refused what", BUSY, 0, 4, what -> x -> x.refused(what));
        for (int below : new int[] {-1, -2, Integer.MIN_VALUE}) {
            bad("queue " + below, BUSY, x -> x.queue(below));
            bad("sample i " + below, BUSY, x -> x.sample(below, 0));
            bad("sample i " + below + ", what 3", BUSY, x -> x.sample(below, 3));
        }
        for (int i : new int[] {0, 1, 2, 3, 4, MOST}) {
            taken("queue " + i, BUSY, x -> x.queue(i), Sort.ASKED);
            taken("sample i " + i, BUSY, x -> x.sample(i, 2), Sort.ASKED);
        }
        asked("sample what", BUSY, 0, 2, what -> x -> x.sample(0, what));
        asked("sample what, not so many", BUSY, 0, 2, what -> x -> x.sample(MOST, what));
    }

    private static void busyCounts() {
        asked("about g", BUSY, 0, 3, g -> x -> x.about(g, 0, 0));
        asked("about e of two", BUSY, 0, 1, e -> x -> x.about(0, e, 1));
        asked("about e of one", BUSY, 0, 0, e -> x -> x.about(1, e, 2));
        asked("about what", BUSY, 0, 2, what -> x -> x.about(0, 1, what));
        asked("count g", BUSY, 0, 3, g -> x -> x.count(g, 0, NONE));
        asked("count e of two", BUSY, 0, 1, e -> x -> x.count(0, e, 0));
        asked("count e of one", BUSY, 0, 0, e -> x -> x.count(3, e, NONE));
        asked("count t", BUSY, NONE, 2, t -> x -> x.count(0, 1, t));
        asked("times g", BUSY, 0, 3, g -> x -> x.times(g, 0, 1));
        asked("times t", BUSY, NONE, 2, t -> x -> x.times(2, t, 0));
        asked("times what", BUSY, 0, 1, what -> x -> x.times(0, NONE, what));
        asked("scaled g", BUSY, 0, 3, g -> x -> x.scaled(g, 0, 0));
        asked("scaled e of two", BUSY, 0, 1, e -> x -> x.scaled(0, e, 1));
        asked("scaled e of one", BUSY, 0, 0, e -> x -> x.scaled(2, e, 0));
        asked("scaled what", BUSY, 0, 1, what -> x -> x.scaled(0, 0, what));
    }

    private static void wholeTold() {
        told("full rates t", WHOLE, 0, 5, t -> x -> x.rates(t, 7, 99));
        told("full periods g", WHOLE, 0, 5, g -> x -> x.periods(g, 200));
        told("full lives g", WHOLE, 0, 5, g -> x -> x.lives(g, 0));
        for (int t = 0; t < 4; t++) {
            int own = t;
            taken("full runs of " + t, WHOLE, x -> x.runs(own, 20), Sort.TOLD_S);
        }
        bad("full runs of 6", WHOLE, x -> x.runs(6, 20));
        taken("full exits 3", WHOLE, x -> x.exits(3), Sort.TOLD_S);
        taken("full does", WHOLE, x -> x.does(), Sort.TOLD_S);
        for (int t = 0; t < 4; t++) {
            int parent = t;
            Refusal.is("full forks " + t, WHOLE, x -> x.forks(parent), FULL);
        }
        for (int t = 0; t < 6; t++) {
            int own = t;
            Refusal.is("full group of " + t, WHOLE, x -> x.group(own, 5, 1, 1, 7), FULL);
            Refusal.is("full event of " + t, WHOLE, x -> x.event(own, 7), FULL);
        }
        for (int c = 0; c <= 127; c++) {
            int sign = c;
            Refusal.is("full type " + c, WHOLE, x -> x.type(sign), FULL);
        }
    }

    private static void wholeAsked() {
        asked("full task t", WHOLE, 0, 5, t -> x -> x.task(t, 2));
        asked("full of g", WHOLE, 0, 5, g -> x -> x.of(g, 10));
        asked("full about e", WHOLE, 0, 3, e -> x -> x.about(5, e, 2));
        asked("full count e", WHOLE, 0, 3, e -> x -> x.count(0, e, 5));
        asked("full count t", WHOLE, NONE, 5, t -> x -> x.count(5, 3, t));
        asked("full times t", WHOLE, NONE, 5, t -> x -> x.times(5, t, 1));
        asked("full scaled e", WHOLE, 0, 3, e -> x -> x.scaled(4, e, 0));
        asked("full fit", WHOLE, 0, 63, bits -> x -> x.fit(bits));
        for (int i = 0; i < 14; i++) {
            int at = i;
            Due.holds("full sample " + i, WHOLE.get().sample(at, 0) == NONE == (at >= 12));
            Due.holds("full queue " + i, WHOLE.get().queue(at) == NONE == (at >= 5));
        }
    }

    /** "the first of: BAD -2 ..; NO -3, FULL -4 as told". */
    private static void refusedFirst() {
        bad("forks: BAD ahead of FULL", WHOLE, x -> x.forks(6));
        Refusal.is("forks: NO ahead of FULL", WHOLE, x -> x.forks(4), NO);
        bad("group: TASK BAD ahead of FULL", WHOLE, x -> x.group(6, 1, 0, 0, 0));
        bad("group: WEIGHT 0 BAD ahead of FULL", WHOLE, x -> x.group(0, 0, 0, 0, 0));
        bad("group: WEIGHT 6 BAD ahead of FULL", WHOLE, x -> x.group(0, 6, 0, 0, 0));
        bad("group: PINNED BAD ahead of FULL", WHOLE, x -> x.group(0, 1, 2, 0, 0));
        bad("group: INHERITS BAD ahead of FULL", WHOLE, x -> x.group(0, 1, 0, -1, 0));
        bad("group: KIND BAD ahead of FULL", WHOLE, x -> x.group(0, 1, 0, 0, 8));
        bad("event: GROUP BAD ahead of FULL", WHOLE, x -> x.event(6, 0));
        bad("event: KIND BAD ahead of FULL", WHOLE, x -> x.event(0, 8));
        bad("type: BAD ahead of FULL, 128", WHOLE, x -> x.type(128));
        bad("type: BAD ahead of FULL, -1", WHOLE, x -> x.type(-1));
        bad("runs: n 0 BAD ahead of NO", WHOLE, x -> x.runs(5, 0));
        bad("runs: n 21 BAD ahead of NO", WHOLE, x -> x.runs(5, 21));
        bad("exits: 0 is BAD, though TASKS come of it", WHOLE, x -> x.exits(0));
        bad("two numbers not as told count once", BUSY, x -> x.rates(9, 9, 999));
        bad("five numbers not as told count once", BUSY, x -> x.group(-1, 0, 2, 2, 8));
    }

    /** NO of forks, exits and runs: on either side of it. */
    private static void ended() {
        for (int t = 4; t < 6; t++) {
            int own = t;
            Refusal.is("forks of one that ENDED", WHOLE, x -> x.forks(own), NO);
            Refusal.is("exits of one that ENDED", WHOLE, x -> x.exits(own), NO);
            Refusal.is("runs of one that ENDED", WHOLE, x -> x.runs(own, 1), NO);
        }
        Refusal.is("exits 1: TASK 2 has not ENDED", WHOLE, x -> x.exits(1), NO);
        Refusal.is("exits 2: TASK 3 has not ENDED", WHOLE, x -> x.exits(2), NO);
        Supplier<CounterDeals> two = () -> {
            CounterDeals x = busy();
            x.forks(1);
            x.forks(1);
            x.exits(3);
            return x;
        };
        Refusal.is("exits 1: one of two has ENDED", two, x -> x.exits(1), NO);
        taken("exits 1: both have", () -> {
            CounterDeals x = two.get();
            x.exits(4);
            return x;
        }, x -> x.exits(1), Sort.TOLD_S);
    }
}
