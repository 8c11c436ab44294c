/**
 * "A SLICE of TASK t, number T (0, 1, ..), goes so", sentence by sentence, and
 * TOTALS, SCALED and MOST. Each method tests the edge of the sentence that it
 * quotes, with answers worked out by hand.
 */
public final class SliceEdgesTest {
    private static final int NONE = CounterDeals.NONE;

    public static void main(String[] args) {
        sliceWithoutGroups();
        numbersOfSlices();
        twentySlicesAreOneByOne();
        exactlyAsManyAsCounters();
        pinnedAheadOfTheQueue();
        pinnedThatDoesNotWatchStaysLive();
        pinnedLeftOutMakesRoom();
        leftOutOfTheQueueStaysLive();
        earlierOnesMoveForLaterOnes();
        lesserNumberAhead();
        enabledThoughLeftOut();
        peakIsTheGreatest();
        periodOnEitherSide();
        periodAtItsEnds();
        manyPeriodsInOneSlice();
        leftStaysWhileNotOn();
        leftAsAPeriodIsTold();
        onlyEventZeroSamples();
        skidOfEachLength();
        skidToldLater();
        waitingOnesAreTold();
        twelveAreKept();
        lostOneEach();
        lostWithinOneSlice();
        weightOfEachLength();
        turnOfTheFirstThatWatched();
        turnKeptOverOtherTasks();
        goesToTheEndAlone();
        goesBehindThoseThatDoNotWatch();
        scaledNone();
        scaledCut();
        mostBounds();
        totalsOverTasks();
        lateEvent();
        Due.end();
    }

    /** A GROUP of TASK 0, WEIGHT 1, of these KINDS. */
    private static void group(CounterDeals x, int pinned, int... kinds) {
        int g = x.group(0, 1, pinned, 0, kinds[0]);
        for (int e = 1; e < kinds.length; e++) {
            x.event(g, kinds[e]);
        }
    }

    /** One GROUP that is always ON, of KIND 0 with this RATE. */
    private static CounterDeals sampled(int rate, int period, int skid) {
        CounterDeals x = new CounterDeals();
        x.rates(0, 0, rate);
        x.group(0, 1, 0, 1, 0);
        x.periods(0, period);
        x.skids(skid);
        return x;
    }

    private static void samples(String name, CounterDeals x, int kept, int wait, int lost) {
        Due.is(name + ": kept", x.told(4), kept);
        Due.is(name + ": wait", x.told(5), wait);
        Due.is(name + ": LOST", x.told(6), lost);
    }

    private static void sliceWithoutGroups() {
        CounterDeals x = new CounterDeals();
        Due.is("no GROUPS", x.runs(0, 20), 20);
        Due.is("ON", x.told(7), 0);
        samples("no GROUPS", x, 0, 0, 0);
        x.group(0, 1, 0, 0, 0);
        Due.is("a GROUP that came later", x.of(0, 10), 0);
        Due.is("its ENABLED", x.times(0, 0, 0), 0);
    }

    /** "number T (0, 1, ..)"; "T is 1 more". */
    private static void numbersOfSlices() {
        CounterDeals x = sampled(30, 30, 0);
        Due.is("T at first", x.told(3), 0);
        Due.is("runs", x.runs(0, 1), 1);
        Due.is("the first SLICE is 0", x.sample(0, 2), 0);
        x.forks(0);
        Due.is("T goes on in another TASK", x.runs(1, 2), 3);
        Due.is("the second", x.sample(1, 2), 1);
        Due.is("the third", x.sample(2, 2), 2);
        Due.is("its TASK", x.sample(2, 1), 1);
    }

    /** 20 SLICES by one call are as 20 by one each. */
    private static void twentySlicesAreOneByOne() {
        CounterDeals x = new CounterDeals();
        CounterDeals y = new CounterDeals();
        for (CounterDeals z : new CounterDeals[] {x, y}) {
            Due.does(z, "c0 0 70;c0 1 33;m1 1;g0 2 0 0 0;g0 3 0 0 1 0;g0 1 0 0 2;g0 1 1 0 1;");
            z.periods(0, 50);
            z.periods(1, 31);
            z.skids(2);
        }
        for (int i = 0; i < 20; i++) {
            x.runs(0, 1);
        }
        y.runs(0, 20);
        y.skids(2);
        Due.is("all is alike", x.digest(), y.digest());
    }

    /** "if EVENTS of all that JOINED and its own can all sit": n of them, n + 1. */
    private static void exactlyAsManyAsCounters() {
        for (int n = 1; n <= 4; n++) {
            CounterDeals x = new CounterDeals();
            x.counters(n);
            int[] kinds = new int[n];
            group(x, 0, kinds);
            x.runs(0, 1);
            Due.is("n of one GROUP", x.told(7), 1);
            if (n < 4) {
                x.event(0, 0);
                x.runs(0, 1);
                Due.is("n + 1 of one GROUP", x.told(7), 0);
            }
            group(x, 0, 0);
            x.runs(0, 1);
            Due.is("one that is left out keeps none from it", x.told(7), n < 4 ? 2 : 1);
        }
    }

    /** "first the PINNED ones by numbers, then those of THE QUEUE". */
    private static void pinnedAheadOfTheQueue() {
        CounterDeals x = new CounterDeals();
        group(x, 0, 0);
        group(x, 0, 0);
        group(x, 1, 0);
        x.runs(0, 1);
        Due.is("2 and the first of THE QUEUE", x.told(7), 5);
        Due.is("2 sits first", x.about(2, 0, 2), 0);
        Due.is("0 behind it", x.about(0, 0, 2), 1);
        group(x, 1, 0);
        x.runs(0, 3);
        Due.is("the PINNED ones alone", x.told(7), 12);
        group(x, 1, 0);
        x.runs(0, 1);
        Due.is("by numbers: the last is left out", x.told(7), 12);
        Due.is("and not LIVE any more", x.of(4, 4), 0);
        x.lives(2, 0);
        x.lives(4, 1);
        x.runs(0, 1);
        Due.is("3 and 4", x.told(7), 24);
        x.lives(2, 1);
        x.runs(0, 1);
        Due.is("2 and 3: 4 has the greatest number", x.told(7), 12);
    }

    /** "of the GROUPS that WATCH t": others are not asked, nor end. */
    private static void pinnedThatDoesNotWatchStaysLive() {
        CounterDeals x = new CounterDeals();
        x.masks(1, 0);
        x.forks(0);
        x.group(0, 1, 1, 0, 1);
        x.runs(1, 5);
        Due.is("LIVE", x.of(0, 4), 1);
        x.runs(0, 1);
        Due.is("not LIVE any more", x.of(0, 4), 0);
        Due.is("ENABLED in that SLICE alone", x.times(0, NONE, 0), 1);
        x.masks(1, 15);
        x.runs(0, 1);
        Due.is("it stays so", x.told(7), 0);
    }

    /** One that is left out takes no COUNTER from those behind it. */
    private static void pinnedLeftOutMakesRoom() {
        CounterDeals x = new CounterDeals();
        group(x, 1, 0);
        group(x, 1, 0, 0);
        group(x, 1, 0);
        x.runs(0, 1);
        Due.is("ON", x.told(7), 5);
        Due.is("0", x.about(0, 0, 2), 0);
        Due.is("1", x.about(1, 0, 2), NONE);
        Due.is("1, EVENT 1", x.about(1, 1, 2), NONE);
        Due.is("2", x.about(2, 0, 2), 1);
    }

    private static void leftOutOfTheQueueStaysLive() {
        CounterDeals x = new CounterDeals();
        x.masks(3, 0);
        x.group(0, 5, 0, 0, 3);
        x.runs(0, 20);
        Due.is("LIVE", x.of(0, 4), 1);
        Due.is("ENABLED", x.times(0, 0, 0), 20);
        x.masks(3, 1);
        x.runs(0, 1);
        Due.is("ON as soon as it can sit", x.told(7), 1);
    }

    /** "of all that JOINED and its own can all sit": those ahead may move. */
    private static void earlierOnesMoveForLaterOnes() {
        CounterDeals x = new CounterDeals();
        x.counters(4);
        x.masks(0, 3);
        x.masks(1, 6);
        x.masks(2, 12);
        x.masks(3, 1);
        group(x, 1, 0, 1, 2);
        x.runs(0, 1);
        Due.is("row 0 1 2: EVENT 2", x.about(0, 2, 2), 2);
        group(x, 0, 3);
        x.runs(0, 1);
        int[] row = {1, 2, 3};
        for (int e = 0; e < 3; e++) {
            Due.is("row 1 2 3, then 0: EVENT " + e, x.about(0, e, 2), row[e]);
        }
        Due.is("the one behind sits on 0", x.about(1, 0, 2), 0);
        x.counters(3);
        x.runs(0, 1);
        Due.is("n 3: the PINNED one alone", x.told(7), 1);
        Due.is("and back to row 0 1 2", x.about(0, 0, 2), 0);
    }

    /** "the one whose row is first .. (the lesser number ahead)". */
    private static void lesserNumberAhead() {
        CounterDeals x = new CounterDeals();
        x.counters(4);
        x.masks(0, 10);
        x.masks(1, 14);
        x.masks(2, 11);
        group(x, 0, 0, 1, 2);
        x.runs(0, 1);
        // Rows: 1 2 0, 1 2 3, 1 3 0, 3 1 0 ..
        Due.is("EVENT 0", x.about(0, 0, 2), 1);
        Due.is("EVENT 1", x.about(0, 1, 2), 2);
        Due.is("EVENT 2", x.about(0, 2, 2), 0);
        x.masks(2, 2);
        x.runs(0, 1);
        // Now 3 2 1 alone.
        Due.is("EVENT 0 then", x.about(0, 0, 2), 3);
        Due.is("EVENT 1 then", x.about(0, 1, 2), 2);
        Due.is("EVENT 2 then", x.about(0, 2, 2), 1);
    }

    /** "Of each GROUP that WATCHED t ahead of (a): ENABLED in t is 1 more". */
    private static void enabledThoughLeftOut() {
        CounterDeals x = new CounterDeals();
        x.forks(0);
        x.masks(0, 0);
        x.group(0, 1, 1, 1, 0);
        x.group(0, 1, 0, 0, 0);
        x.group(1, 1, 0, 0, 0);
        x.runs(1, 2);
        int[] enabled = {1, 0, 2};
        for (int g = 0; g < 3; g++) {
            Due.is("ENABLED of " + g + " in 1", x.times(g, 1, 0), enabled[g]);
            Due.is("ENABLED of " + g + " in 0", x.times(g, 0, 0), 0);
            Due.is("RUNNING of " + g, x.times(g, NONE, 1), 0);
        }
    }

    /** "PEAK of an EVENT: the greatest RATE that was added so (0: none was)". */
    private static void peakIsTheGreatest() {
        CounterDeals x = new CounterDeals();
        x.rates(0, 0, 50);
        x.group(0, 1, 0, 1, 0);
        Due.is("none was", x.about(0, 0, 1), 0);
        x.lives(0, 0);
        x.runs(0, 1);
        Due.is("a RATE that was not added", x.about(0, 0, 1), 0);
        x.lives(0, 1);
        x.runs(0, 1);
        Due.is("50", x.about(0, 0, 1), 50);
        x.rates(0, 0, 49);
        x.runs(0, 1);
        Due.is("49 is less", x.about(0, 0, 1), 50);
        x.rates(0, 0, 51);
        x.runs(0, 1);
        Due.is("51 is greater", x.about(0, 0, 1), 51);
        x.forks(0);
        x.rates(1, 0, 52);
        Due.is("not ahead of its SLICE", x.about(0, 0, 1), 51);
        x.runs(1, 1);
        Due.is("52 in another TASK", x.about(0, 0, 1), 52);
    }

    /** "as long as it is PERIOD or more it becomes PERIOD less". */
    private static void periodOnEitherSide() {
        CounterDeals less = sampled(49, 50, 0);
        less.runs(0, 1);
        Due.is("49 of 50: LEFT", less.of(0, 8), 49);
        samples("49 of 50", less, 0, 0, 0);
        CounterDeals same = sampled(50, 50, 0);
        same.runs(0, 1);
        Due.is("50 of 50: LEFT", same.of(0, 8), 0);
        samples("50 of 50", same, 1, 0, 0);
        CounterDeals more = sampled(51, 50, 0);
        more.runs(0, 1);
        Due.is("51 of 50: LEFT", more.of(0, 8), 1);
        samples("51 of 50", more, 1, 0, 0);
        CounterDeals two = sampled(98, 49, 0);
        two.runs(0, 1);
        Due.is("98 of 49: LEFT", two.of(0, 8), 0);
        samples("98 of 49", two, 2, 0, 0);
        CounterDeals none = sampled(0, 30, 0);
        none.runs(0, 20);
        Due.is("0 of 30: LEFT", none.of(0, 8), 0);
        samples("0 of 30", none, 0, 0, 0);
    }

    /** "PERIOD (30 .. 200; none at first)". */
    private static void periodAtItsEnds() {
        CounterDeals least = sampled(30, 30, 0);
        least.runs(0, 3);
        samples("30 of 30", least, 3, 0, 0);
        CounterDeals most = sampled(99, 200, 0);
        most.runs(0, 2);
        Due.is("198 of 200", most.of(0, 8), 198);
        samples("198 of 200", most, 0, 0, 0);
        most.runs(0, 1);
        Due.is("297 of 200", most.of(0, 8), 97);
        samples("297 of 200", most, 1, 0, 0);
        CounterDeals none = new CounterDeals();
        none.rates(0, 0, 99);
        none.group(0, 1, 0, 0, 0);
        none.runs(0, 20);
        Due.is("none at first", none.of(0, 7), 0);
        Due.is("LEFT stays 0", none.of(0, 8), 0);
        samples("none at first", none, 0, 0, 0);
    }

    /** 29 and 99 by 30: 4 at once, as many as can come of one GROUP. */
    private static void manyPeriodsInOneSlice() {
        CounterDeals x = sampled(29, 30, 0);
        x.runs(0, 1);
        samples("29", x, 0, 0, 0);
        x.rates(0, 0, 99);
        x.runs(0, 1);
        Due.is("128 by 30: LEFT", x.of(0, 8), 8);
        samples("128 by 30", x, 4, 0, 0);
        for (int i = 0; i < 4; i++) {
            Due.is("GROUP", x.sample(i, 0), 0);
            Due.is("SLICE", x.sample(i, 2), 1);
        }
        Due.is("a fifth", x.sample(4, 0), NONE);
    }

    /** "each GROUP that is ON and has a PERIOD". */
    private static void leftStaysWhileNotOn() {
        CounterDeals x = sampled(20, 30, 0);
        x.counters(1);
        x.group(0, 1, 0, 0, 1);
        x.periods(1, 30);
        x.runs(0, 1);
        Due.is("ON: LEFT", x.of(0, 8), 20);
        x.runs(0, 1);
        Due.is("not ON: LEFT stays", x.of(0, 8), 20);
        samples("not ON", x, 0, 0, 0);
        x.runs(0, 1);
        Due.is("ON again: 40 of 30", x.of(0, 8), 10);
        samples("ON again", x, 1, 0, 0);
        x.lives(0, 0);
        x.runs(0, 3);
        Due.is("not LIVE: LEFT stays", x.of(0, 8), 10);
    }

    /** "LEFT (0 as a PERIOD is told)". */
    private static void leftAsAPeriodIsTold() {
        CounterDeals x = sampled(29, 30, 0);
        x.runs(0, 1);
        Due.is("LEFT", x.of(0, 8), 29);
        Due.is("the same PERIOD again", x.periods(0, 30), 30);
        Due.is("LEFT is 0", x.of(0, 8), 0);
        x.runs(0, 1);
        samples("29 of 30", x, 0, 0, 0);
        Due.is("refused", x.periods(0, 29), CounterDeals.BAD);
        Due.is("LEFT stays, refused", x.of(0, 8), 29);
        x.periods(0, 0);
        x.runs(0, 1);
        x.periods(0, 30);
        x.runs(0, 1);
        Due.is("LEFT is 0 behind none, too", x.of(0, 8), 29);
        samples("yet none", x, 0, 0, 0);
        x.back();
        Due.is("LEFT goes back", x.of(0, 8), 0);
    }

    /** "RATE of its EVENT 0". */
    private static void onlyEventZeroSamples() {
        CounterDeals x = new CounterDeals();
        x.skids(0);
        x.rates(0, 1, 99);
        group(x, 0, 0, 1);
        x.periods(0, 30);
        x.runs(0, 20);
        samples("EVENT 1 makes none", x, 0, 0, 0);
        Due.is("LEFT", x.of(0, 8), 0);
    }

    /** "due in SLICE T + SKID (0 .. 3; 1 at first)". */
    private static void skidOfEachLength() {
        for (int skid = 0; skid <= 3; skid++) {
            CounterDeals x = sampled(30, 30, skid);
            x.runs(0, 1);
            x.rates(0, 0, 0);
            for (int slice = 0; slice < 5; slice++) {
                Due.is("SKID " + skid + ", TOLD in " + slice, x.told(4), slice >= skid ? 1 : 0);
                Due.is("SKID " + skid + ", wait in " + slice, x.told(5), slice >= skid ? 0 : 1);
                x.runs(0, 1);
            }
            Due.is("SLICE of SKID " + skid, x.sample(0, 2), skid);
        }
        CounterDeals first = new CounterDeals();
        Due.is("1 at first", first.told(8), 1);
        first.rates(0, 0, 30);
        group(first, 0, 0);
        first.periods(0, 30);
        first.runs(0, 2);
        Due.is("SLICE of SKID at first", first.sample(0, 2), 1);
    }

    /** A SKID told later is for those that come later. */
    private static void skidToldLater() {
        CounterDeals x = sampled(30, 30, 3);
        x.runs(0, 1);
        x.skids(0);
        x.runs(0, 1);
        samples("SLICE 1: its own, not that of SLICE 0", x, 1, 1, 0);
        x.skids(2);
        x.runs(0, 1);
        samples("SLICE 2: none is due", x, 1, 2, 0);
        x.rates(0, 0, 0);
        x.runs(0, 1);
        samples("SLICE 3: that of SLICE 0", x, 2, 1, 0);
        x.runs(0, 1);
        samples("SLICE 4: that of SLICE 2", x, 3, 0, 0);
        int[] slices = {1, 3, 4};
        for (int i = 0; i < 3; i++) {
            Due.is("SLICE of " + i, x.sample(i, 2), slices[i]);
        }
    }

    /** "Then all that wait and are due .., as they came, are TOLD: of TASK t". */
    private static void waitingOnesAreTold() {
        CounterDeals x = sampled(60, 30, 2);
        x.group(0, 1, 1, 0, 0);
        x.periods(1, 60);
        x.forks(0);
        x.rates(1, 0, 0);
        x.runs(0, 1);
        samples("two of 0, one of 1", x, 0, 3, 0);
        x.periods(0, 0);
        x.lives(1, 0);
        x.runs(0, 1);
        samples("no PERIOD, not LIVE: they wait yet", x, 0, 3, 0);
        x.runs(1, 1);
        samples("TOLD in another TASK", x, 3, 0, 0);
        int[] groups = {0, 0, 1};
        for (int i = 0; i < 3; i++) {
            Due.is("GROUP of " + i, x.sample(i, 0), groups[i]);
            Due.is("TASK of " + i, x.sample(i, 1), 1);
            Due.is("SLICE of " + i, x.sample(i, 2), 2);
        }
    }

    /** "TOLD ones are kept, 12 at most". */
    private static void twelveAreKept() {
        CounterDeals x = sampled(30, 30, 0);
        x.runs(0, 11);
        samples("eleven", x, 11, 0, 0);
        Due.is("the twelfth: not so many", x.sample(11, 2), NONE);
        x.runs(0, 1);
        samples("twelve", x, 12, 0, 0);
        Due.is("the twelfth", x.sample(11, 2), 11);
        Due.is("a thirteenth", x.sample(12, 2), NONE);
        x.runs(0, 1);
        samples("thirteen", x, 12, 0, 1);
        Due.is("the first stays", x.sample(0, 2), 0);
        Due.is("the twelfth stays", x.sample(11, 2), 11);
        Due.is("a thirteenth is not kept", x.sample(12, 2), NONE);
        x.back();
        samples("back: twelve", x, 12, 0, 0);
        x.back();
        samples("back: eleven", x, 11, 0, 0);
    }

    /** "what comes beyond that is LOST, 1 more each": as it is TOLD, not as it waits. */
    private static void lostOneEach() {
        CounterDeals x = sampled(90, 30, 3);
        x.runs(0, 3);
        samples("more wait than are kept", x, 0, 9, 0);
        x.runs(0, 4);
        samples("twelve TOLD", x, 12, 9, 0);
        x.runs(0, 1);
        samples("three more", x, 12, 9, 3);
        x.rates(0, 0, 0);
        x.runs(0, 20);
        samples("all that waited", x, 12, 0, 12);
        x.runs(0, 20);
        samples("no more", x, 12, 0, 12);
    }

    /** Of one SLICE some are kept and the others LOST. */
    private static void lostWithinOneSlice() {
        CounterDeals x = sampled(99, 49, 0);
        x.group(0, 1, 1, 0, 0);
        x.periods(1, 33);
        x.runs(0, 2);
        samples("2 and 3 each SLICE", x, 10, 0, 0);
        x.runs(0, 1);
        samples("two kept, three LOST", x, 12, 0, 3);
        Due.is("the eleventh", x.sample(10, 0), 0);
        Due.is("the twelfth", x.sample(11, 0), 0);
        Due.is("its SLICE", x.sample(11, 2), 2);
    }

    /** "its TURN is 1 more; if that is its WEIGHT or more: it is 0, and .. to the end". */
    private static void weightOfEachLength() {
        for (int w = 1; w <= 5; w++) {
            CounterDeals x = new CounterDeals();
            x.group(0, w, 0, 0, 0);
            x.group(0, 5, 0, 0, 0);
            for (int turn = 1; turn < w; turn++) {
                x.runs(0, 1);
                Due.is("WEIGHT " + w + ": TURN", x.of(0, 6), turn);
                Due.is("WEIGHT " + w + ": it is ahead", x.queue(0), 0);
            }
            x.runs(0, 1);
            Due.is("WEIGHT " + w + ": TURN is 0", x.of(0, 6), 0);
            Due.is("WEIGHT " + w + ": the other is ahead", x.queue(0), 1);
            Due.is("WEIGHT " + w + ": it is the last", x.queue(1), 0);
            Due.is("WEIGHT " + w + ": the other had none", x.of(1, 6), 0);
        }
    }

    /** "The first of THE QUEUE that WATCHED t ahead of (a)": ON or not. */
    private static void turnOfTheFirstThatWatched() {
        CounterDeals x = new CounterDeals();
        x.masks(1, 0);
        x.forks(0);
        x.group(1, 1, 0, 0, 0);
        x.group(0, 2, 0, 0, 1);
        x.group(0, 1, 0, 0, 0);
        x.runs(0, 1);
        Due.is("0 does not WATCH", x.of(0, 6), 0);
        Due.is("1 is left out and has its TURN", x.of(1, 6), 1);
        Due.is("2 is ON and has none", x.of(2, 6), 0);
        x.runs(0, 1);
        int[] queue = {0, 2, 1};
        for (int i = 0; i < 3; i++) {
            Due.is("1 goes to the end, 0 stays ahead", x.queue(i), queue[i]);
        }
        x.lives(1, 0);
        x.lives(2, 0);
        x.runs(0, 5);
        for (int i = 0; i < 3; i++) {
            Due.is("none WATCHED: all stay", x.queue(i), queue[i]);
            Due.is("none WATCHED: TURN", x.of(i, 6), 0);
        }
    }

    private static void turnKeptOverOtherTasks() {
        CounterDeals x = new CounterDeals();
        x.forks(0);
        x.group(0, 3, 0, 0, 0);
        x.group(1, 2, 0, 0, 0);
        x.runs(0, 2);
        x.runs(1, 1);
        Due.is("TURN of 0 stays", x.of(0, 6), 2);
        Due.is("TURN of 1", x.of(1, 6), 1);
        x.lives(0, 0);
        x.runs(0, 1);
        x.lives(0, 1);
        Due.is("TURN stays while it is not LIVE", x.of(0, 6), 2);
        x.runs(0, 1);
        Due.is("TURN is 0", x.of(0, 6), 0);
        Due.is("0 went behind 1", x.queue(1), 0);
        Due.is("TURN of 1 stays", x.of(1, 6), 1);
    }

    private static void goesToTheEndAlone() {
        CounterDeals x = new CounterDeals();
        x.group(0, 2, 0, 0, 0);
        x.runs(0, 1);
        Due.is("TURN", x.of(0, 6), 1);
        x.runs(0, 1);
        Due.is("TURN is 0", x.of(0, 6), 0);
        Due.is("its place", x.of(0, 9), 0);
        Due.is("no other", x.queue(1), NONE);
    }

    /** "the GROUP goes to the end of THE QUEUE": behind those that WATCH none or another TASK, too. */
    private static void goesBehindThoseThatDoNotWatch() {
        CounterDeals x = new CounterDeals();
        x.forks(0);
        x.group(0, 1, 0, 0, 0);
        x.group(1, 1, 0, 0, 0);
        x.group(0, 1, 0, 0, 0);
        x.lives(2, 0);
        x.runs(0, 1);
        Due.are("THE QUEUE", new int[] {x.queue(0), x.queue(1), x.queue(2)}, 1, 2, 0);
        x.runs(1, 1);
        Due.are("THE QUEUE then", new int[] {x.queue(0), x.queue(1), x.queue(2)}, 2, 0, 1);
    }

    /** "SCALED ..; none, if RUNNING is 0": also if it was ENABLED. */
    private static void scaledNone() {
        CounterDeals x = new CounterDeals();
        x.rates(0, 0, 9);
        x.masks(0, 0);
        x.group(0, 1, 0, 0, 0);
        Due.is("never ENABLED", x.scaled(0, 0, 0), NONE);
        Due.is("never ENABLED: MOST", x.scaled(0, 0, 1), 0);
        x.runs(0, 7);
        Due.is("never RUNNING", x.scaled(0, 0, 0), NONE);
        Due.is("never RUNNING: MOST, no PEAK", x.scaled(0, 0, 1), 0);
        x.masks(0, 1);
        x.runs(0, 1);
        Due.is("RUNNING 1: 9 times 8", x.scaled(0, 0, 0), 72);
        Due.is("RUNNING 1: MOST", x.scaled(0, 0, 1), 72);
    }

    /** "its COUNT times ENABLED by RUNNING (cut)". */
    private static void scaledCut() {
        CounterDeals x = new CounterDeals();
        x.counters(1);
        x.rates(0, 0, 1);
        x.group(0, 3, 0, 0, 0);
        x.group(0, 1, 0, 0, 0);
        x.runs(0, 2);
        x.rates(0, 0, 0);
        x.runs(0, 2);
        // GROUP 0: 1 1 0 -
        Due.is("2 times 4 by 3: 2 and two thirds", x.scaled(0, 0, 0), 2);
        x.rates(0, 0, 1);
        x.runs(0, 1);
        // GROUP 0: 1 1 0 - 1
        Due.is("3 times 5 by 4: 3 and three quarters", x.scaled(0, 0, 0), 3);
        x.runs(0, 1);
        Due.is("4 times 6 by 5: 4 and four fifths", x.scaled(0, 0, 0), 4);
        x.runs(0, 2);
        // GROUP 0: 1 1 0 - 1 1 1 -
        Due.is("5 times 8 by 6: 6 and two thirds", x.scaled(0, 0, 0), 6);
        Due.is("GROUP 1: 1 times 8 by 2: 4 whole", x.scaled(1, 0, 0), 4);
    }

    /** "MOST of it: COUNT and (ENABLED - RUNNING) times PEAK". */
    private static void mostBounds() {
        CounterDeals x = new CounterDeals();
        x.counters(1);
        x.rates(0, 0, 99);
        x.group(0, 1, 0, 0, 0);
        x.runs(0, 2);
        Due.is("always RUNNING: its COUNT", x.scaled(0, 0, 1), 198);
        x.group(0, 1, 1, 0, 1);
        x.rates(0, 0, 1);
        x.runs(0, 3);
        Due.is("three more at PEAK, not at RATE", x.scaled(0, 0, 1), 495);
        Due.is("SCALED: 198 times 5 by 2", x.scaled(0, 0, 0), 495);
        x.lives(1, 0);
        x.runs(0, 1);
        Due.is("1 was added", x.scaled(0, 0, 1), 496);
        Due.is("SCALED: 199 times 6 by 3", x.scaled(0, 0, 0), 398);
    }

    /** "TOTALS of a GROUP are over all TASKS": in SCALED and MOST, too. */
    private static void totalsOverTasks() {
        CounterDeals x = new CounterDeals();
        x.counters(1);
        x.rates(0, 0, 10);
        x.forks(0);
        x.rates(1, 0, 40);
        x.group(0, 1, 0, 1, 0);
        x.group(0, 1, 0, 1, 1);
        x.runs(0, 3);
        x.runs(1, 2);
        // GROUP 0: 10 - 10 | - 40
        Due.is("COUNT in 0", x.count(0, 0, 0), 20);
        Due.is("COUNT in 1", x.count(0, 0, 1), 40);
        Due.is("SCALED: 60 times 5 by 3", x.scaled(0, 0, 0), 100);
        Due.is("MOST: 60 and 2 times 40", x.scaled(0, 0, 1), 140);
        x.exits(1);
        Due.is("SCALED behind exits", x.scaled(0, 0, 0), 100);
        Due.is("MOST behind exits", x.scaled(0, 0, 1), 140);
    }

    /** An EVENT that came later has no COUNT of what was ahead; TOTALS are the GROUP's. */
    private static void lateEvent() {
        CounterDeals x = new CounterDeals();
        x.rates(0, 0, 10);
        x.group(0, 1, 0, 0, 0);
        x.runs(0, 3);
        x.event(0, 0);
        Due.is("COUNT", x.count(0, 1, NONE), 0);
        Due.is("SCALED: 0 times 3 by 3", x.scaled(0, 1, 0), 0);
        Due.is("it sat on none", x.about(0, 1, 2), NONE);
        x.runs(0, 1);
        Due.is("COUNT then", x.count(0, 1, NONE), 10);
        Due.is("SCALED: 10 times 4 by 4", x.scaled(0, 1, 0), 10);
        Due.is("it sits", x.about(0, 1, 2), 1);
    }
}
