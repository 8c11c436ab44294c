import java.util.function.ToIntFunction;

/**
 * STATES and what is counted of refusals, sentence by sentence. Each method
 * tests the edge of the sentence that it quotes.
 */
public final class StateEdgesTest {
    private static final int NONE = CounterDeals.NONE;
    private static final int BAD = CounterDeals.BAD;
    private static final int NO = CounterDeals.NO;
    private static final int FULL = CounterDeals.FULL;

    public static void main(String[] args) {
        noneAtFirst();
        eachCallToldSLeavesOne();
        alsoIfNothingBecomesOther();
        othersLeaveNone();
        fiveAtMost();
        olderOnesLost();
        refusedLosesNone();
        allButTheText();
        allButHowOften();
        lastSliceGoesBack();
        queueAndTurnsGoBack();
        samplesGoBack();
        waitingOnesGoBack();
        placesUsedAgain();
        endedGoesBack();
        pinnedIsLiveAgain();
        backIsNoS();
        goesOnFromBack();
        manyTimesRoundTheRing();
        refusedCountsEachSort();
        refusedByAsking();
        digestCountsNothing();
        Due.end();
    }

    /** Two TASKS, GROUPS 0 (in THE QUEUE) and 1 (PINNED); one STATE to go back to. */
    private static CounterDeals ready() {
        CounterDeals x = new CounterDeals();
        Due.does(x, "f0;c0 0 70;g0 2 0 1 0;g0 1 1 1 1;r0 3;m3 7;");
        return x;
    }

    private static void noneAtFirst() {
        CounterDeals x = new CounterDeals();
        Due.is("STATES", x.refused(4), 0);
        Due.is("back", x.back(), NO);
        Due.is("back again", x.back(), NO);
        Due.is("NO", x.refused(1), 2);
        Due.is("ready: one", ready().refused(4), 1);
    }

    private static void leaves(String name, ToIntFunction<CounterDeals> call, int answer) {
        CounterDeals x = ready();
        CounterDeals y = ready();
        Due.is(name, call.applyAsInt(x), answer);
        Due.is(name + " leaves one", x.refused(4), 2);
        Due.is(name + " back", x.back(), 1);
        x.clear();
        y.clear();
        Due.is(name + " back: all is as it was", x.digest(), y.digest());
        Due.is(name + " again", call.applyAsInt(x), answer);
    }

    /** "each call told S, if it is not refused, leaves one". */
    private static void eachCallToldSLeavesOne() {
        leaves("counters", x -> x.counters(4), 2);
        leaves("masks", x -> x.masks(3, 8), 7);
        leaves("rates", x -> x.rates(1, 0, 99), 0);
        leaves("forks", x -> x.forks(1), 2);
        leaves("exits", x -> x.exits(1), 0);
        leaves("group", x -> x.group(1, 5, 0, 1, 7), 2);
        leaves("event", x -> x.event(1, 7), 1);
        leaves("periods", x -> x.periods(0, 200), 0);
        leaves("skids", x -> x.skids(3), 1);
        leaves("lives", x -> x.lives(1, 0), 1);
        leaves("runs", x -> x.runs(1, 20), 23);
        leaves("does", x -> Due.does(x, "f1;r0 2;g0 1 0 0 0;"), 3);
    }

    /** "also if nothing becomes other by it". */
    private static void alsoIfNothingBecomesOther() {
        leaves("counters", x -> x.counters(2), 2);
        leaves("masks", x -> x.masks(3, 7), 7);
        leaves("rates", x -> x.rates(0, 0, 70), 70);
        leaves("periods", x -> x.periods(0, 0), 0);
        leaves("skids", x -> x.skids(1), 1);
        leaves("lives", x -> x.lives(0, 1), 1);
        leaves("does", x -> Due.does(x, "m3 7;c0 0 70;"), 2);
    }

    private static void none(String name, ToIntFunction<CounterDeals> call) {
        CounterDeals x = ready();
        x.counters(3);
        call.applyAsInt(x);
        Due.is(name + " leaves none", x.refused(4), 2);
        x.back();
        Due.is(name + ": back goes ahead of counters", x.told(0), 2);
        x.back();
        call.applyAsInt(x);
        Due.is(name + " leaves none, where there is none", x.refused(4), 0);
    }

    private static void othersLeaveNone() {
        none("task", x -> x.task(0, 2));
        none("of", x -> x.of(0, 10));
        none("about", x -> x.about(0, 0, 2));
        none("count", x -> x.count(0, 0, NONE));
        none("times", x -> x.times(0, NONE, 1));
        none("scaled", x -> x.scaled(0, 0, 1));
        none("fit", x -> x.fit(3));
        none("queue", x -> x.queue(0));
        none("sample", x -> x.sample(0, 0));
        none("told", x -> x.told(0));
        none("type", x -> x.type('f'));
        none("clear", x -> x.clear());
        none("refused", x -> x.refused(4));
        none("digest", x -> (int) x.digest());
        none("does with a FAULT", x -> Due.does(x, "f"));
        none("does that an ORDER ends", x -> Due.does(x, "f0;f9;"));
    }

    /** "5 at most". */
    private static void fiveAtMost() {
        for (int calls = 1; calls <= 7; calls++) {
            CounterDeals x = new CounterDeals();
            for (int i = 1; i <= calls; i++) {
                x.rates(0, 0, i);
                Due.is("STATES", x.refused(4), Math.min(i, 5));
            }
            int kept = Math.min(calls, 5);
            for (int i = 1; i <= kept; i++) {
                Due.is("how many can be yet", x.back(), kept - i);
            }
            Due.is("no more", x.back(), NO);
            Due.is("of " + calls + " the RATE", x.rates(0, 0, 0), calls - kept);
        }
    }

    /** "older ones lost": the oldest goes, those behind it stay. */
    private static void olderOnesLost() {
        CounterDeals x = new CounterDeals();
        x.counters(4);
        x.counters(3);
        x.counters(1);
        x.counters(4);
        x.counters(2);
        x.counters(1);
        int[] back = {2, 4, 1, 3, 4};
        for (int n : back) {
            x.back();
            Due.is("n", x.told(0), n);
        }
        Due.is("n at first is lost", x.back(), NO);
        Due.is("n", x.told(0), 4);
    }

    /** A refused call loses no STATE of the five. */
    private static void refusedLosesNone() {
        CounterDeals x = new CounterDeals();
        for (int v = 1; v <= 5; v++) {
            x.rates(0, 0, v);
        }
        x.counters(5);
        x.masks(8, 0);
        x.rates(1, 0, 0);
        x.forks(1);
        x.exits(0);
        x.group(0, 0, 0, 0, 0);
        x.event(0, 0);
        x.periods(0, 30);
        x.skids(4);
        x.lives(0, 0);
        x.runs(0, 21);
        Due.does(x, "f0;f0;f0;f0;f0;f0;");
        Due.does(x, "f0;x");
        for (int v = 4; v >= 0; v--) {
            Due.is("back", x.back(), v);
        }
        Due.is("as it was at first", x.rates(0, 0, 1), 0);
    }

    /** "to go back to (all but THE TEXT ..": its bytes and how many. */
    private static void allButTheText() {
        CounterDeals x = new CounterDeals();
        Due.type(x, "f0;");
        x.counters(3);
        Due.type(x, "f1;");
        x.back();
        Due.is("typed behind it", x.refused(3), 6);
        Due.is("does", x.does(), 2);
        x.clear();
        x.back();
        Due.is("cleared behind it", x.refused(3), 0);
        Due.is("does", x.does(), -10);
        Due.is("TASKS", x.told(1), 1);
    }

    /** ".. and how often refused)". */
    private static void allButHowOften() {
        CounterDeals x = new CounterDeals();
        x.forks(0);
        x.exits(1);
        x.told(-1);
        x.exits(1);
        for (int i = 0; i < 6; i++) {
            x.group(0, 1, 0, 0, 0);
        }
        x.group(0, 1, 0, 0, 0);
        for (int i = 0; i < 5; i++) {
            x.back();
        }
        Due.is("BAD", x.refused(0), 1);
        Due.is("NO", x.refused(1), 1);
        Due.is("FULL", x.refused(2), 1);
        x.back();
        Due.is("NO of back", x.refused(1), 2);
    }

    private static void lastSliceGoesBack() {
        CounterDeals x = new CounterDeals();
        x.group(0, 1, 0, 0, 0);
        x.masks(0, 2);
        x.runs(0, 1);
        Due.is("ON", x.told(7), 1);
        x.back();
        Due.is("not ON yet", x.told(7), 0);
        Due.is("not ON yet, of", x.of(0, 10), 0);
        Due.is("no COUNTER yet", x.about(0, 0, 2), NONE);
        x.runs(0, 1);
        x.masks(0, 0);
        x.runs(0, 1);
        Due.is("left out", x.about(0, 0, 2), NONE);
        x.back();
        Due.is("ON again", x.told(7), 1);
        Due.is("its COUNTER again", x.about(0, 0, 2), 1);
        Due.is("T", x.told(3), 1);
    }

    private static void queueAndTurnsGoBack() {
        CounterDeals x = new CounterDeals();
        x.group(0, 2, 0, 0, 0);
        x.group(0, 1, 0, 0, 0);
        x.runs(0, 1);
        x.runs(0, 1);
        x.runs(0, 1);
        Due.is("0 is ahead again", x.queue(0), 0);
        x.back();
        Due.is("1 ahead", x.queue(0), 1);
        x.back();
        Due.is("0 ahead", x.queue(0), 0);
        Due.is("TURN", x.of(0, 6), 1);
        x.back();
        Due.is("TURN", x.of(0, 6), 0);
        x.back();
        Due.is("one in THE QUEUE", x.queue(1), NONE);
        x.back();
        Due.is("none in THE QUEUE", x.queue(0), NONE);
    }

    private static void samplesGoBack() {
        CounterDeals x = new CounterDeals();
        x.rates(0, 0, 90);
        x.group(0, 1, 0, 0, 0);
        x.periods(0, 40);
        x.runs(0, 1);
        x.runs(0, 20);
        Due.is("kept", x.told(4), 12);
        // 21 SLICES of 90 by 40: 47, 2 of them come in the last one.
        Due.is("wait", x.told(5), 2);
        Due.is("LOST", x.told(6), 33);
        x.back();
        Due.is("kept", x.told(4), 0);
        Due.is("wait", x.told(5), 2);
        Due.is("LOST", x.told(6), 0);
        Due.is("LEFT", x.of(0, 8), 10);
        Due.is("no SAMPLE is TOLD", x.sample(0, 0), NONE);
        x.back();
        Due.is("none waits", x.told(5), 0);
        Due.is("LEFT", x.of(0, 8), 0);
        x.back();
        Due.is("no PERIOD", x.of(0, 7), 0);
    }

    /** SAMPLES that wait go back with their GROUPS and the SLICES in which they are due. */
    private static void waitingOnesGoBack() {
        CounterDeals x = new CounterDeals();
        Due.does(x, "c0 0 30;g0 1 1 0 0;g0 1 1 0 0;");
        x.skids(3);
        x.periods(1, 30);
        x.runs(0, 1);
        x.periods(0, 30);
        x.periods(1, 0);
        x.runs(0, 1);
        // Due: of GROUP 1 in SLICE 3, of GROUP 0 in SLICE 4.
        x.skids(0);
        x.runs(0, 4);
        x.back();
        x.back();
        Due.is("wait", x.told(5), 2);
        x.periods(0, 0);
        x.runs(0, 2);
        Due.is("of GROUP 1", x.sample(0, 0), 1);
        Due.is("in SLICE 3", x.sample(0, 2), 3);
        Due.is("one waits", x.told(5), 1);
        x.runs(0, 1);
        Due.is("of GROUP 0", x.sample(1, 0), 0);
        Due.is("in SLICE 4", x.sample(1, 2), 4);
        Due.is("no more", x.told(4) + x.told(5), 2);
    }

    /** TASKS, GROUPS and EVENTS in places that others had know nothing of them. */
    private static void placesUsedAgain() {
        CounterDeals x = new CounterDeals();
        Due.does(x, "f0;c1 0 99;c1 3 50;g1 3 0 1 0 3 0 0;g0 2 0 1 0;m3 2;r1 4;r0 2;");
        x.clear();
        x.back();
        x.forks(0);
        x.group(0, 5, 1, 0, 3);
        x.group(0, 1, 0, 0, 0);
        x.event(0, 4);
        CounterDeals y = new CounterDeals();
        y.forks(0);
        y.group(0, 5, 1, 0, 3);
        y.group(0, 1, 0, 0, 0);
        y.event(0, 4);
        Due.is("as if the others had not been", x.digest(), y.digest());
        x.runs(0, 3);
        y.runs(0, 3);
        Due.is("going on", x.digest(), y.digest());
    }

    private static void endedGoesBack() {
        CounterDeals x = ready();
        x.runs(1, 2);
        x.exits(1);
        Due.is("ENDED", x.task(1, 1), 1);
        Due.is("ENABLED in 0", x.times(0, 0, 0), 5);
        x.back();
        Due.is("not ENDED", x.task(1, 1), 0);
        Due.is("ENABLED in 0", x.times(0, 0, 0), 3);
        Due.is("ENABLED in 1", x.times(0, 1, 0), 2);
        Due.is("it RUNS", x.runs(1, 1), 6);
        Due.is("it forks", x.forks(1), 2);
    }

    private static void pinnedIsLiveAgain() {
        CounterDeals x = new CounterDeals();
        x.masks(0, 0);
        x.group(0, 1, 1, 0, 0);
        x.runs(0, 1);
        Due.is("not LIVE", x.of(0, 4), 0);
        x.back();
        Due.is("LIVE", x.of(0, 4), 1);
        Due.is("it WATCHES", x.task(0, 2), 1);
        Due.is("ENABLED", x.times(0, 0, 0), 0);
    }

    /** "back: A STATE back": it leaves none itself, what was behind is gone. */
    private static void backIsNoS() {
        CounterDeals x = new CounterDeals();
        x.counters(3);
        x.counters(4);
        Due.is("back", x.back(), 1);
        Due.is("STATES", x.refused(4), 1);
        Due.is("n", x.told(0), 3);
        Due.is("back", x.back(), 0);
        Due.is("n", x.told(0), 2);
        Due.is("not forth again", x.back(), NO);
        Due.is("n", x.told(0), 2);
    }

    private static void goesOnFromBack() {
        CounterDeals x = new CounterDeals();
        x.counters(3);
        x.counters(4);
        x.back();
        x.counters(1);
        Due.is("STATES", x.refused(4), 2);
        x.back();
        Due.is("n 3, not 4", x.told(0), 3);
        x.back();
        Due.is("n 2", x.told(0), 2);
    }

    /** Far more STATES than are kept, going back by ones, twos, .. fives between. */
    private static void manyTimesRoundTheRing() {
        CounterDeals x = new CounterDeals();
        int v = 0;
        for (int round = 0; round < 50; round++) {
            int[] past = new int[7];
            for (int i = 0; i < 7; i++) {
                past[i] = v;
                v = (v + 13) % 100;
                Due.is("what it was", x.rates(0, 0, v), past[i]);
            }
            int steps = round % 6;
            for (int i = 0; i < steps; i++) {
                Due.is("back", x.back(), 4 - i);
                v = past[6 - i];
            }
            Due.is("STATES", x.refused(4), 5 - steps);
        }
    }

    /** "How often refused: BAD (0), NO (1), FULL (2)". */
    private static void refusedCountsEachSort() {
        CounterDeals x = new CounterDeals();
        for (int i = 1; i <= 3; i++) {
            Due.is("BAD", x.counters(0), BAD);
            Due.is("how often BAD", x.refused(0), i);
        }
        for (int i = 1; i <= 4; i++) {
            Due.is("NO", x.back(), NO);
            Due.is("how often NO", x.refused(1), i);
        }
        Due.does(x, "f0;f0;f0;f0;f0;");
        for (int i = 1; i <= 5; i++) {
            Due.is("FULL", x.forks(0), FULL);
            Due.is("how often FULL", x.refused(2), i);
        }
        Due.is("BAD yet", x.refused(0), 3);
        Due.is("NO yet", x.refused(1), 4);
    }

    /** "Refused (any call, getters, too)": refused itself, too. */
    private static void refusedByAsking() {
        CounterDeals x = new CounterDeals();
        Due.is("refused(5)", x.refused(5), BAD);
        Due.is("BAD", x.refused(0), 1);
        Due.is("refused(-1)", x.refused(-1), BAD);
        Due.is("BAD", x.refused(0), 2);
        x.task(1, 0);
        x.of(0, 0);
        x.about(0, 0, 0);
        x.count(0, 0, 0);
        x.times(0, 0, 0);
        x.scaled(0, 0, 0);
        x.fit(1);
        x.queue(-1);
        x.sample(-1, 0);
        x.told(9);
        x.type(128);
        Due.is("BAD", x.refused(0), 13);
        x.queue(0);
        x.sample(0, 0);
        x.task(0, 0);
        Due.is("NONE is no refusal", x.refused(0), 13);
    }

    /** The digest goes through NONEs and counts none of them as refused. */
    private static void digestCountsNothing() {
        CounterDeals x = ready();
        long digest = x.digest();
        for (int i = 0; i < 3; i++) {
            Due.is("digest", x.digest(), digest);
        }
        for (int what = 0; what < 3; what++) {
            Due.is("how often, " + what, x.refused(what), 0);
        }
        x.told(9);
        Due.holds("BAD is in it", x.digest() != digest);
    }
}
