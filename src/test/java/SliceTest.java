/** How a SLICE goes, (a) to (d), with answers worked out by hand. */
public final class SliceTest {
    private static final int NONE = CounterDeals.NONE;

    public static void main(String[] args) {
        laterOnesMoveEarlierOnes();
        firstRowOfAllWays();
        rowGoesAsTheyJoined();
        pinnedGoFirstByNumbers();
        pinnedThatCanNotSit();
        leftOutIsSteppedOver();
        masksBeyondN();
        groupsCountTogetherOrNotAtAll();
        onlyWatchersAreAsked();
        enabledAheadOfJoining();
        samplesByNumbers();
        manySamplesInOneSlice();
        lateSamplesAfterSkidIsLess();
        samplesOfOnesThatAreNotOn();
        samplesBeyondTwelve();
        mostThatCanWait();
        turnsByWeights();
        turnOfOneLeftOut();
        turnGoesToTheFirstThatWatched();
        Due.end();
    }

    private static int[] seats(CounterDeals x, int... groups) {
        int[] all = new int[groups.length];
        for (int i = 0; i < groups.length; i++) {
            all[i] = x.about(groups[i], 0, 2);
        }
        return all;
    }

    /** One GROUP of TASK 0 for each KIND 0, 1, .. with the MASKS told. */
    private static CounterDeals withMasks(int n, int pinned, int... masks) {
        CounterDeals x = new CounterDeals();
        x.counters(n);
        for (int k = 0; k < masks.length; k++) {
            x.masks(k, masks[k]);
            x.group(0, 1, pinned, 0, k);
        }
        return x;
    }

    private static void laterOnesMoveEarlierOnes() {
        CounterDeals x = withMasks(2, 0, 3, 1);
        x.runs(0, 1);
        Due.are("moved", seats(x, 0, 1), 1, 0);
        CounterDeals y = withMasks(4, 0, 15, 7, 3, 1);
        y.runs(0, 1);
        Due.are("all moved", seats(y, 0, 1, 2, 3), 3, 2, 1, 0);
        CounterDeals z = withMasks(3, 0, 3, 3, 3, 4);
        z.runs(0, 1);
        Due.are("the seats are not those of one left out", seats(z, 0, 1, 2, 3), 0, 1, NONE, 2);
    }

    private static void firstRowOfAllWays() {
        CounterDeals x = withMasks(3, 0, 3, 7, 1);
        x.runs(0, 1);
        Due.are("row 1 2 0", seats(x, 0, 1, 2), 1, 2, 0);
        CounterDeals y = withMasks(4, 0, 12, 6, 14, 15);
        y.runs(0, 1);
        Due.are("row 2 1 3 0", seats(y, 0, 1, 2, 3), 2, 1, 3, 0);
        CounterDeals z = withMasks(4, 0, 15, 15, 15);
        z.runs(0, 1);
        Due.are("row 0 1 2", seats(z, 0, 1, 2), 0, 1, 2);
    }

    private static void rowGoesAsTheyJoined() {
        CounterDeals x = withMasks(2, 0, 15, 15);
        x.runs(0, 1);
        Due.are("0 ahead", seats(x, 0, 1), 0, 1);
        x.runs(0, 1);
        Due.are("1 ahead", seats(x, 0, 1), 1, 0);
        CounterDeals y = new CounterDeals();
        y.counters(4);
        y.group(0, 1, 0, 0, 0);
        y.event(0, 1);
        y.group(0, 1, 1, 0, 2);
        y.event(1, 3);
        y.runs(0, 1);
        Due.is("PINNED EVENT 0", y.about(1, 0, 2), 0);
        Due.is("PINNED EVENT 1", y.about(1, 1, 2), 1);
        Due.is("EVENT 0", y.about(0, 0, 2), 2);
        Due.is("EVENT 1", y.about(0, 1, 2), 3);
    }

    private static void pinnedGoFirstByNumbers() {
        CounterDeals x = new CounterDeals();
        x.group(0, 1, 0, 0, 0);
        x.group(0, 1, 1, 0, 0);
        x.group(0, 1, 0, 0, 0);
        x.group(0, 1, 1, 0, 0);
        x.runs(0, 5);
        Due.is("ON", x.told(7), 10);
        Due.are("seats", seats(x, 0, 1, 2, 3), NONE, 0, NONE, 1);
        Due.is("others RUNNING", x.times(0, 0, 1) + x.times(2, 0, 1), 0);
        Due.is("others ENABLED", x.times(0, 0, 0), 5);
    }

    private static void pinnedThatCanNotSit() {
        CounterDeals x = withMasks(2, 1, 15, 15, 15, 0);
        x.runs(0, 1);
        Due.is("ON", x.told(7), 3);
        Due.is("2 is not LIVE any more", x.of(2, 4), 0);
        Due.is("3 is not LIVE any more", x.of(3, 4), 0);
        Due.is("1 is LIVE", x.of(1, 4), 1);
        Due.is("who WATCH", x.task(0, 2), 3);
        x.counters(4);
        x.runs(0, 2);
        Due.is("ENABLED as long as it WATCHED", x.times(2, 0, 0), 1);
        x.lives(2, 1);
        x.runs(0, 1);
        Due.is("ON again", x.told(7), 7);
        CounterDeals y = withMasks(2, 0, 0);
        y.runs(0, 3);
        Due.is("one that is not PINNED stays LIVE", y.of(0, 4), 1);
        Due.is("and is ENABLED", y.times(0, 0, 0), 3);
        Due.is("and not RUNNING", y.times(0, 0, 1), 0);
    }

    private static void leftOutIsSteppedOver() {
        CounterDeals x = new CounterDeals();
        x.group(0, 5, 0, 0, 0);
        x.group(0, 5, 0, 0, 0);
        x.event(1, 0);
        x.group(0, 5, 0, 0, 0);
        x.runs(0, 1);
        Due.is("0 and 2 are ON", x.told(7), 5);
        Due.are("seats", seats(x, 0, 1, 2), 0, NONE, 1);
    }

    private static void masksBeyondN() {
        CounterDeals x = withMasks(3, 0, 8, 12);
        x.runs(0, 1);
        Due.are("on 2 alone", seats(x, 0, 1), NONE, 2);
        x.counters(4);
        x.runs(0, 1);
        Due.are("on 3 too", seats(x, 0, 1), 3, 2);
    }

    private static void groupsCountTogetherOrNotAtAll() {
        CounterDeals x = new CounterDeals();
        x.rates(0, 0, 4);
        x.masks(0, 1);
        x.group(0, 1, 0, 0, 1);
        x.event(0, 0);
        x.event(0, 0);
        x.counters(4);
        x.runs(0, 1);
        Due.is("two on one COUNTER", x.told(7), 0);
        Due.is("none counts", x.count(0, 1, 0), 0);
        x.masks(0, 6);
        x.runs(0, 1);
        Due.is("EVENT 0", x.about(0, 0, 2), 0);
        Due.is("EVENT 1", x.about(0, 1, 2), 1);
        Due.is("EVENT 2", x.about(0, 2, 2), 2);
        Due.is("EVENT 1 counts", x.count(0, 1, 0), 4);
        Due.is("EVENT 2 counts", x.count(0, 2, 0), 4);
    }

    private static void onlyWatchersAreAsked() {
        CounterDeals x = new CounterDeals();
        x.counters(4);
        x.forks(0);
        x.forks(1);
        x.rates(1, 0, 3);
        x.group(0, 1, 0, 0, 0);
        x.group(0, 1, 0, 1, 0);
        x.group(1, 1, 1, 1, 0);
        x.group(2, 1, 0, 1, 0);
        x.runs(1, 1);
        Due.is("ON in TASK 1", x.told(7), 6);
        Due.is("COUNT in TASK 1 of its RATE", x.count(1, 0, 1), 3);
        Due.is("none in TASK 0", x.count(1, 0, 0), 0);
        x.runs(2, 1);
        Due.is("ON in TASK 2", x.told(7), 14);
        x.runs(0, 1);
        Due.is("ON in TASK 0", x.told(7), 3);
        Due.is("the last SLICE's seat alone", x.about(3, 0, 2), NONE);
        Due.is("PEAK over TASKS", x.about(1, 0, 1), 3);
    }

    private static void enabledAheadOfJoining() {
        CounterDeals x = withMasks(1, 1, 15, 15);
        x.runs(0, 3);
        Due.is("ENABLED of the first", x.times(0, 0, 0), 3);
        Due.is("ENABLED of one that is LIVE no more", x.times(1, 0, 0), 1);
        Due.is("RUNNING of it", x.times(1, 0, 1), 0);
    }

    private static void samplesByNumbers() {
        CounterDeals x = new CounterDeals();
        x.skids(0);
        x.rates(0, 0, 30);
        x.group(0, 1, 0, 0, 0);
        x.group(0, 1, 1, 0, 0);
        x.periods(0, 30);
        x.periods(1, 30);
        x.runs(0, 1);
        Due.is("GROUP 0 ahead", x.sample(0, 0), 0);
        Due.is("GROUP 1, though it JOINED first", x.sample(1, 0), 1);
        Due.is("SLICE at once", x.sample(1, 2), 0);
        Due.is("none waits", x.told(5), 0);
    }

    private static void manySamplesInOneSlice() {
        CounterDeals x = new CounterDeals();
        x.rates(0, 1, 99);
        x.group(0, 1, 0, 0, 1);
        x.event(0, 2);
        x.periods(0, 33);
        x.runs(0, 1);
        Due.is("99 by 33", x.told(5), 3);
        Due.is("LEFT", x.of(0, 8), 0);
        x.periods(0, 50);
        x.runs(0, 1);
        Due.is("99 by 50: one waits", x.told(5), 1);
        Due.is("LEFT", x.of(0, 8), 49);
        Due.is("TOLD", x.told(4), 3);
        x.runs(0, 1);
        Due.is("148 by 50: two wait", x.told(5), 2);
        Due.is("LEFT", x.of(0, 8), 48);
        Due.is("TOLD", x.told(4), 4);
    }

    private static void lateSamplesAfterSkidIsLess() {
        CounterDeals x = new CounterDeals();
        x.rates(0, 0, 30);
        x.group(0, 1, 0, 0, 0);
        x.group(0, 1, 0, 0, 0);
        x.periods(0, 30);
        x.skids(3);
        x.runs(0, 1);
        x.periods(0, 0);
        x.periods(1, 30);
        x.skids(0);
        x.runs(0, 1);
        Due.is("the later one is TOLD", x.sample(0, 0), 1);
        Due.is("in SLICE 1", x.sample(0, 2), 1);
        Due.is("the earlier one waits", x.told(5), 1);
        x.runs(0, 1);
        Due.is("SLICE 2 tells one more", x.told(4), 2);
        x.runs(0, 1);
        Due.are("in SLICE 3 as they came", new int[] {x.sample(2, 0), x.sample(2, 2),
            x.sample(3, 0), x.sample(3, 2), x.told(5)}, 0, 3, 1, 3, 0);
    }

    private static void samplesOfOnesThatAreNotOn() {
        CounterDeals x = new CounterDeals();
        x.counters(1);
        x.rates(0, 0, 40);
        x.group(0, 1, 0, 0, 0);
        x.group(0, 1, 0, 0, 0);
        x.periods(0, 40);
        x.runs(0, 1);
        x.lives(0, 0);
        x.runs(0, 3);
        Due.is("one that waits is TOLD though it is not LIVE", x.sample(0, 0), 0);
        Due.is("in SLICE 1", x.sample(0, 2), 1);
        Due.is("no more come", x.told(4) + x.told(5), 1);
    }

    private static void samplesBeyondTwelve() {
        CounterDeals x = new CounterDeals();
        x.skids(0);
        x.rates(0, 0, 90);
        x.group(0, 1, 0, 0, 0);
        x.periods(0, 30);
        x.runs(0, 4);
        Due.is("twelve", x.told(4), 12);
        Due.is("LOST", x.told(6), 0);
        Due.is("the twelfth", x.sample(11, 2), 3);
        x.runs(0, 1);
        Due.is("twelve yet", x.told(4), 12);
        Due.is("LOST", x.told(6), 3);
        Due.is("the twelfth stays", x.sample(11, 2), 3);
    }

    private static void mostThatCanWait() {
        CounterDeals x = new CounterDeals();
        x.counters(4);
        x.skids(3);
        x.rates(0, 0, 99);
        for (int g = 0; g < 4; g++) {
            x.group(0, 1, 1, 0, 0);
            x.periods(g, 30);
        }
        // LEFT 9, 18, 27, then 126 by 30: 3, 3, 3, 4 SAMPLES of each.
        x.runs(0, 3);
        Due.is("wait", x.told(5), 36);
        x.runs(0, 1);
        Due.is("12 TOLD, 16 more", x.told(5), 40);
        x.runs(0, 16);
        Due.is("T 20: 66 of each, those of 3 SLICES wait", x.told(5), 40);
        Due.is("all others LOST", x.told(6), 4 * 66 - 40 - 12);
    }

    private static void turnsByWeights() {
        CounterDeals x = new CounterDeals();
        x.counters(1);
        x.group(0, 2, 0, 0, 0);
        x.group(0, 1, 0, 0, 0);
        x.group(0, 3, 0, 0, 0);
        int[] on = {1, 1, 2, 4, 4, 4, 1, 1, 2};
        for (int bits : on) {
            x.runs(0, 1);
            Due.is("ON", x.told(7), bits);
        }
        Due.is("T 9: 2 is ahead", x.queue(0), 2);
        x.runs(0, 2);
        Due.is("TURN", x.of(2, 6), 2);
        Due.is("TURN of another", x.of(0, 6), 0);
    }

    private static void turnOfOneLeftOut() {
        CounterDeals x = withMasks(2, 0, 0, 15);
        x.runs(0, 1);
        Due.is("one left out had its TURN too", x.queue(0), 1);
        Due.is("goes to the end", x.queue(1), 0);
        CounterDeals y = new CounterDeals();
        y.group(0, 3, 1, 0, 0);
        y.runs(0, 2);
        Due.is("a PINNED one has none", y.of(0, 6), 0);
    }

    private static void turnGoesToTheFirstThatWatched() {
        CounterDeals x = new CounterDeals();
        x.forks(0);
        x.group(0, 1, 0, 0, 0);
        x.group(1, 1, 0, 0, 0);
        x.group(0, 1, 0, 1, 0);
        x.runs(1, 1);
        Due.are("1 goes to the end", new int[] {x.queue(0), x.queue(1), x.queue(2)}, 0, 2, 1);
        x.runs(1, 1);
        Due.are("2 goes, 0 stays ahead", new int[] {x.queue(0), x.queue(1), x.queue(2)}, 0, 1, 2);
        x.lives(0, 0);
        x.runs(0, 1);
        Due.are("0 is not LIVE", new int[] {x.queue(0), x.queue(1), x.queue(2)}, 0, 1, 2);
        Due.is("TURN stays 0", x.of(0, 6), 0);
        x.lives(2, 0);
        x.runs(0, 1);
        Due.are("none WATCHES", new int[] {x.queue(0), x.queue(1), x.queue(2)}, 0, 1, 2);
    }
}
