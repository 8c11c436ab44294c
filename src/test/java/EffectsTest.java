import java.util.ArrayList;
import java.util.Arrays;
import java.util.List;
import java.util.Set;
import java.util.TreeSet;
import java.util.function.Consumer;
import java.util.function.ToLongFunction;

/**
 * A call changes what the document tells of it, and nothing else: all that can
 * be seen of a busy object is held against what could be seen ahead of the
 * call. Each change stands as "name was > is", worked out by hand.
 */
public final class EffectsTest {
    private static final Consumer<CounterDeals> AS_IT_IS = x -> { };

    public static void main(String[] args) {
        settings();
        newTask();
        taskEnds();
        newGroup();
        newEvent();
        periods();
        lives();
        slice();
        sliceThatNoneWatches();
        sliceThatLeavesOutAPinnedOne();
        textAlone();
        does();
        back();
        askedOnly();
        Due.end();
    }

    /**
     * SLICES 0 (TASK 3, which ENDS), 1, 2 (TASK 0), 3 to 6 (TASK 2). GROUP 0 is
     * ON in all. GROUP 1 is ON in 0, 1, 2, GROUP 2 in 3, 4, is not LIVE then, so
     * GROUP 1 is ON again in 5, 6. SAMPLES of GROUP 0 come in 1, 2, 3, 5, 6, of
     * GROUP 1 in 5, of GROUP 2 in 4; those due in 7 and 8 wait.
     */
    private static CounterDeals busy() {
        CounterDeals x = new CounterDeals();
        x.counters(3);
        x.masks(0, 3);
        x.masks(1, 6);
        x.rates(0, 0, 40);
        x.rates(0, 1, 9);
        x.rates(0, 2, 17);
        x.group(0, 1, 1, 1, 0);
        x.group(0, 3, 0, 1, 1);
        x.event(1, 2);
        x.group(0, 4, 0, 1, 2);
        x.periods(0, 55);
        x.periods(1, 30);
        x.periods(2, 30);
        x.forks(0);
        x.rates(1, 0, 45);
        x.forks(1);
        x.forks(0);
        x.skids(2);
        x.runs(3, 1);
        x.exits(3);
        x.runs(0, 2);
        x.runs(2, 2);
        x.lives(2, 0);
        x.runs(2, 2);
        Due.type(x, "f0;");
        x.counters(0);
        x.forks(3);
        return x;
    }

    private static void does(String name, Consumer<CounterDeals> ahead, ToLongFunction<CounterDeals> call,
            long answer, String... changes) {
        CounterDeals asked = made(ahead);
        Due.is(name, call.applyAsLong(asked), answer);
        Seen before = new Seen(() -> made(ahead));
        Seen after = new Seen(() -> {
            CounterDeals x = made(ahead);
            call.applyAsLong(x);
            return x;
        });
        Set<String> got = before.changes(after);
        Set<String> due = new TreeSet<>(Arrays.asList(changes));
        Due.is(name + ": changes told twice", due.size(), changes.length);
        for (String change : due) {
            Due.holds(name + ": " + change + " is missing", got.contains(change));
        }
        for (String change : got) {
            Due.holds(name + ": " + change + " is not told", due.contains(change));
        }
    }

    private static CounterDeals made(Consumer<CounterDeals> ahead) {
        CounterDeals x = busy();
        ahead.accept(x);
        return x;
    }

    private static String[] joined(String[]... parts) {
        List<String> all = new ArrayList<>();
        for (String[] part : parts) {
            all.addAll(Arrays.asList(part));
        }
        return all.toArray(new String[0]);
    }

    private static String[] changes(String... all) {
        return all;
    }

    private static void settings() {
        does("counters(4)", AS_IT_IS, x -> x.counters(4), 3, "told(0) 3 > 4", "fit(7) 0 > 1");
        does("counters(1)", AS_IT_IS, x -> x.counters(1), 3, "told(0) 3 > 1",
            "fit(2) 1 > 0", "fit(3) 1 > 0", "fit(5) 1 > 0", "fit(6) 1 > 0");
        does("counters(1): a PINNED one is LIVE up to a SLICE", x -> x.event(0, 3), x -> x.counters(1), 3,
            "told(0) 3 > 1", "fit(1) 1 > 0", "fit(2) 1 > 0", "fit(5) 1 > 0", "fit(6) 1 > 0");
        does("counters(3), as it was", AS_IT_IS, x -> x.counters(3), 3);
        does("masks(1, 0)", AS_IT_IS, x -> x.masks(1, 0), 6, "MASK 1 6 > 0",
            "fit(2) 1 > 0", "fit(3) 1 > 0", "fit(6) 1 > 0");
        does("masks(0, 15)", AS_IT_IS, x -> x.masks(0, 15), 3, "MASK 0 3 > 15");
        does("rates(1, 2, 99), not in the TASK that comes of it", AS_IT_IS, x -> x.rates(1, 2, 99), 17,
            "RATE 1 2 17 > 99");
        does("rates(3, 0, 1), of one that has ENDED", AS_IT_IS, x -> x.rates(3, 0, 1), 40, "RATE 3 0 40 > 1");
        does("skids(0), not of those that wait", AS_IT_IS, x -> x.skids(0), 2, "told(8) 2 > 0");
        does("skids(3)", AS_IT_IS, x -> x.skids(3), 2, "told(8) 2 > 3");
    }

    /** What is new with TASK 4, whoever its PARENT is. */
    private static String[] taskFour(int parent, int rate) {
        return changes("told(1) 4 > 5", "task(4,0) - > " + parent, "task(4,1) - > 0", "task(4,2) - > 3",
            "RATE 4 0 - > " + rate, "RATE 4 1 - > 9", "RATE 4 2 - > 17", "RATE 4 3 - > 0", "RATE 4 4 - > 0",
            "RATE 4 5 - > 0", "RATE 4 6 - > 0", "RATE 4 7 - > 0",
            "times(0,4,0) - > 0", "times(0,4,1) - > 0", "times(1,4,0) - > 0", "times(1,4,1) - > 0",
            "times(2,4,0) - > 0", "times(2,4,1) - > 0",
            "count(0,0,4) - > 0", "count(1,0,4) - > 0", "count(1,1,4) - > 0", "count(2,0,4) - > 0");
    }

    private static void newTask() {
        does("forks(1)", AS_IT_IS, x -> x.forks(1), 4, taskFour(1, 45));
        does("forks(0)", AS_IT_IS, x -> x.forks(0), 4, taskFour(0, 40));
    }

    private static void taskEnds() {
        does("exits(2), also what one counted that is not LIVE", AS_IT_IS, x -> x.exits(2), 1,
            "task(2,1) 0 > 1",
            "times(0,1,0) 0 > 4", "times(0,1,1) 0 > 4", "times(0,2,0) 4 > 0", "times(0,2,1) 4 > 0",
            "times(1,1,0) 0 > 4", "times(1,1,1) 0 > 2", "times(1,2,0) 4 > 0", "times(1,2,1) 2 > 0",
            "times(2,1,0) 0 > 2", "times(2,1,1) 0 > 2", "times(2,2,0) 2 > 0", "times(2,2,1) 2 > 0",
            "count(0,0,1) 0 > 180", "count(0,0,2) 180 > 0", "count(1,0,1) 0 > 18", "count(1,0,2) 18 > 0",
            "count(1,1,1) 0 > 34", "count(1,1,2) 34 > 0", "count(2,0,1) 0 > 34", "count(2,0,2) 34 > 0");
        does("exits(1), though one that comes of another has not ENDED", x -> {
            x.exits(2);
            x.forks(0);
            x.forks(4);
        }, x -> x.exits(1), 0,
            "task(1,1) 0 > 1",
            "times(0,0,0) 3 > 7", "times(0,0,1) 3 > 7", "times(0,1,0) 4 > 0", "times(0,1,1) 4 > 0",
            "times(1,0,0) 3 > 7", "times(1,0,1) 3 > 5", "times(1,1,0) 4 > 0", "times(1,1,1) 2 > 0",
            "times(2,0,0) 3 > 5", "times(2,0,1) 0 > 2", "times(2,1,0) 2 > 0", "times(2,1,1) 2 > 0",
            "count(0,0,0) 120 > 300", "count(0,0,1) 180 > 0", "count(1,0,0) 27 > 45", "count(1,0,1) 18 > 0",
            "count(1,1,0) 51 > 85", "count(1,1,1) 34 > 0", "count(2,0,0) 0 > 34", "count(2,0,1) 34 > 0");
    }

    /** What is new with GROUP 3 of KIND 3, whatever else it is. */
    private static String[] groupThree() {
        return changes("told(2) 3 > 4",
            "of(3,4) - > 1", "of(3,5) - > 1", "of(3,6) - > 0", "of(3,7) - > 0", "of(3,8) - > 0", "of(3,10) - > 0",
            "about(3,0,0) - > 3", "about(3,0,1) - > 0", "about(3,0,2) - > -1",
            "scaled(3,0,0) - > -1", "scaled(3,0,1) - > 0",
            "count(3,0,-1) - > 0", "count(3,0,0) - > 0", "count(3,0,1) - > 0", "count(3,0,2) - > 0",
            "count(3,0,3) - > 0",
            "times(3,-1,0) - > 0", "times(3,0,0) - > 0", "times(3,1,0) - > 0", "times(3,2,0) - > 0",
            "times(3,3,0) - > 0",
            "times(3,-1,1) - > 0", "times(3,0,1) - > 0", "times(3,1,1) - > 0", "times(3,2,1) - > 0",
            "times(3,3,1) - > 0",
            "fit(8) - > 1", "fit(9) - > 1", "fit(10) - > 1", "fit(11) - > 0", "fit(12) - > 1", "fit(13) - > 1",
            "fit(14) - > 0", "fit(15) - > 0");
    }

    private static void newGroup() {
        does("group(1, 2, 0, 0, 3)", AS_IT_IS, x -> x.group(1, 2, 0, 0, 3), 3, joined(groupThree(), changes(
            "of(3,0) - > 1", "of(3,1) - > 2", "of(3,2) - > 0", "of(3,3) - > 0", "of(3,9) - > 2",
            "queue(2) -1 > 3", "task(1,2) 3 > 11")));
        does("group(0, 5, 1, 1, 3)", AS_IT_IS, x -> x.group(0, 5, 1, 1, 3), 3, joined(groupThree(), changes(
            "of(3,0) - > 0", "of(3,1) - > 5", "of(3,2) - > 1", "of(3,3) - > 1", "of(3,9) - > -1",
            "task(0,2) 3 > 11", "task(1,2) 3 > 11", "task(2,2) 3 > 11", "task(3,2) 3 > 11")));
    }

    private static void newEvent() {
        does("event(1, 5): its GROUP was ON all the same", AS_IT_IS, x -> x.event(1, 5), 2,
            "of(1,5) 2 > 3", "about(1,2,0) - > 5", "about(1,2,1) - > 0", "about(1,2,2) - > -1",
            "count(1,2,-1) - > 0", "count(1,2,0) - > 0", "count(1,2,1) - > 0", "count(1,2,2) - > 0",
            "count(1,2,3) - > 0", "scaled(1,2,0) - > 0", "scaled(1,2,1) - > 0",
            "fit(3) 1 > 0", "fit(6) 1 > 0");
        does("event(2, 0): its GROUP is not LIVE all the same", AS_IT_IS, x -> x.event(2, 0), 1,
            "of(2,5) 1 > 2", "about(2,1,0) - > 0", "about(2,1,1) - > 0", "about(2,1,2) - > -1",
            "count(2,1,-1) - > 0", "count(2,1,0) - > 0", "count(2,1,1) - > 0", "count(2,1,2) - > 0",
            "count(2,1,3) - > 0", "scaled(2,1,0) - > 0", "scaled(2,1,1) - > 0",
            "fit(6) 1 > 0");
    }

    private static void periods() {
        does("periods(0, 80)", AS_IT_IS, x -> x.periods(0, 80), 55, "of(0,7) 55 > 80", "of(0,8) 25 > 0");
        does("periods(0, 55), as it was", AS_IT_IS, x -> x.periods(0, 55), 55, "of(0,8) 25 > 0");
        does("periods(1, 0)", AS_IT_IS, x -> x.periods(1, 0), 30, "of(1,7) 30 > 0", "of(1,8) 15 > 0");
        does("periods(2, 200), of one not LIVE", AS_IT_IS, x -> x.periods(2, 200), 30,
            "of(2,7) 30 > 200", "of(2,8) 4 > 0");
    }

    private static void lives() {
        does("lives(0, 0)", AS_IT_IS, x -> x.lives(0, 0), 1, "of(0,4) 1 > 0",
            "task(0,2) 3 > 2", "task(1,2) 3 > 2", "task(2,2) 3 > 2", "task(3,2) 3 > 2");
        does("lives(1, 0)", AS_IT_IS, x -> x.lives(1, 0), 1, "of(1,4) 1 > 0",
            "task(0,2) 3 > 1", "task(1,2) 3 > 1", "task(2,2) 3 > 1", "task(3,2) 3 > 1");
        does("lives(2, 1)", AS_IT_IS, x -> x.lives(2, 1), 0, "of(2,4) 0 > 1",
            "task(0,2) 3 > 7", "task(1,2) 3 > 7", "task(2,2) 3 > 7", "task(3,2) 3 > 7");
        does("lives(2, 0), as it was", AS_IT_IS, x -> x.lives(2, 0), 0);
        does("lives(1, 1), as it was", AS_IT_IS, x -> x.lives(1, 1), 1);
    }

    /** The two SAMPLES that are due in SLICE 7 are TOLD in it, of its TASK. */
    private static String[] toldInSeven(int t) {
        return changes("told(3) 7 > 8", "told(4) 4 > 6",
            "sample(4,0) - > 0", "sample(4,1) - > " + t, "sample(4,2) - > 7",
            "sample(5,0) - > 1", "sample(5,1) - > " + t, "sample(5,2) - > 7",
            "waits 0 due 7 > 8", "waits 2 GROUP 0 > -", "waits 2 due 8 > -");
    }

    /** No SAMPLE comes in SLICE 7, so one alone waits still. */
    private static String[] noneComes() {
        return changes("told(5) 3 > 1", "waits 1 GROUP 1 > -", "waits 1 due 7 > -");
    }

    /** GROUP 1 is ON in SLICE 7, of TASK t; it was ON in so many of it. */
    private static String[] groupOneIsOn(int t, int slices) {
        return changes("times(1,-1,0) 7 > 8", "times(1,-1,1) 5 > 6",
            "times(1," + t + ",0) " + slices + " > " + (slices + 1),
            "times(1," + t + ",1) " + slices + " > " + (slices + 1),
            "count(1,0,-1) 45 > 54", "count(1,0," + t + ") " + 9 * slices + " > " + 9 * (slices + 1),
            "count(1,1,-1) 85 > 102", "count(1,1," + t + ") " + 17 * slices + " > " + 17 * (slices + 1),
            "scaled(1,0,0) 63 > 72", "scaled(1,0,1) 63 > 72", "scaled(1,1,0) 119 > 136",
            "scaled(1,1,1) 119 > 136",
            "of(1,6) 2 > 0", "of(1,8) 15 > 24");
    }

    private static void slice() {
        does("runs(1, 1)", AS_IT_IS, x -> x.runs(1, 1), 8, joined(toldInSeven(1), groupOneIsOn(1, 0), changes(
            "times(0,-1,0) 7 > 8", "times(0,-1,1) 7 > 8", "times(0,1,0) 0 > 1", "times(0,1,1) 0 > 1",
            "count(0,0,-1) 300 > 345", "count(0,0,1) 0 > 45",
            "scaled(0,0,0) 300 > 345", "scaled(0,0,1) 300 > 345",
            "of(0,8) 25 > 15", "told(5) 3 > 2", "waits 1 GROUP 1 > 0", "waits 1 due 7 > 9")));
    }

    private static void sliceThatNoneWatches() {
        does("runs(1, 1) that none WATCHES", x -> {
            x.lives(0, 0);
            x.lives(1, 0);
        }, x -> x.runs(1, 1), 8, joined(toldInSeven(1), noneComes(), changes(
            "told(7) 3 > 0", "of(0,10) 1 > 0", "of(1,10) 1 > 0",
            "about(0,0,2) 0 > -1", "about(1,0,2) 1 > -1", "about(1,1,2) 2 > -1")));
    }

    private static void sliceThatLeavesOutAPinnedOne() {
        does("runs(0, 1) that leaves out GROUP 0", x -> x.masks(0, 0), x -> x.runs(0, 1), 8,
            joined(toldInSeven(0), noneComes(), groupOneIsOn(0, 3), changes(
            "told(7) 3 > 2", "of(0,4) 1 > 0", "of(0,10) 1 > 0", "about(0,0,2) 0 > -1",
            "task(0,2) 3 > 2", "task(1,2) 3 > 2", "task(2,2) 3 > 2", "task(3,2) 3 > 2",
            "times(0,-1,0) 7 > 8", "times(0,0,0) 3 > 4", "scaled(0,0,0) 300 > 342", "scaled(0,0,1) 300 > 345",
            "about(1,1,2) 2 > 0")));
    }

    private static void textAlone() {
        does("type(65)", AS_IT_IS, x -> x.type(65), 4, "refused(3) 3 > 4");
        does("clear()", AS_IT_IS, x -> x.clear(), 3, "refused(3) 3 > 0");
        does("clear() of nothing", x -> x.clear(), x -> x.clear(), 0);
    }

    private static void does() {
        does("does()", AS_IT_IS, x -> x.does(), 1, taskFour(0, 40));
        does("does() with a FAULT", x -> x.type('x'), x -> x.does(), -13);
        does("does() that ends too early", x -> x.type('f'), x -> x.does(), -14);
        does("does() with an ORDER that is refused", x -> Due.type(x, "m0 1;c0 0 7;g0 1 0 0 1 2;r0 5;r3 1;"),
            x -> x.does(), -1005);
    }

    /** Behind each call told S one back is as if it had never been. */
    private static void back() {
        List<ToLongFunction<CounterDeals>> calls = List.of(x -> x.counters(4), x -> x.masks(1, 0),
            x -> x.rates(2, 0, 3), x -> x.forks(0), x -> x.exits(2), x -> x.group(0, 2, 0, 1, 3),
            x -> x.event(1, 5), x -> x.periods(0, 80), x -> x.skids(0), x -> x.lives(1, 0),
            x -> x.runs(0, 20), x -> x.does());
        for (int i = 0; i < calls.size(); i++) {
            ToLongFunction<CounterDeals> call = calls.get(i);
            does("call " + i + ", back", AS_IT_IS, x -> {
                call.applyAsLong(x);
                return x.back();
            }, 4, "refused(4) 5 > 4");
        }
    }

    private static void askedOnly() {
        List<ToLongFunction<CounterDeals>> calls = List.of(x -> x.task(2, 2), x -> x.of(1, 8),
            x -> x.about(1, 1, 2), x -> x.count(0, 0, 2), x -> x.times(1, 2, 1), x -> x.scaled(2, 0, 1),
            x -> x.fit(7), x -> x.fit(5), x -> x.queue(0), x -> x.sample(3, 0), x -> x.told(7),
            x -> x.refused(4));
        long[] answers = {3, 15, 2, 180, 2, 85, 0, 1, 2, 2, 3, 5};
        for (int i = 0; i < calls.size(); i++) {
            does("asking, " + i, AS_IT_IS, calls.get(i), answers[i]);
        }
        does("digest()", AS_IT_IS, x -> x.digest(), busy().digest());
    }
}
