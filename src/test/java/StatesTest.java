/** STATES: who leaves one, what going back brings, and what it does not. */
public final class StatesTest {
    private static final int NO = CounterDeals.NO;
    private static final int STEPS = 12;

    public static void main(String[] args) {
        eachCallGoesBack();
        nothingBecomesOtherLeavesOne();
        fiveAtMost();
        refusedLeavesNone();
        gettersLeaveNone();
        refusedLeavesAllFive();
        groupsMadeAgain();
        goingOnFromBack();
        samplesWaitAgain();
        Due.end();
    }

    private static CounterDeals busy() {
        CounterDeals x = new CounterDeals();
        x.rates(0, 0, 70);
        x.group(0, 2, 0, 1, 0);
        x.group(0, 3, 1, 1, 1);
        x.group(0, 1, 0, 0, 2);
        x.periods(0, 40);
        x.forks(0);
        x.runs(0, 5);
        x.runs(1, 3);
        return x;
    }

    private static int step(CounterDeals x, int i) {
        switch (i) {
            case 0: return x.counters(3);
            case 1: return x.masks(0, 6);
            case 2: return x.rates(1, 3, 44);
            case 3: return x.forks(1);
            case 4: return x.exits(1);
            case 5: return x.group(1, 2, 0, 1, 3);
            case 6: return x.event(1, 5);
            case 7: return x.periods(0, 50);
            case 8: return x.skids(3);
            case 9: return x.lives(0, 0);
            case 10: return x.runs(1, 20);
            default: return x.does();
        }
    }

    /** All but how often refused, THE TEXT and how many STATES there are. */
    private static String seen(CounterDeals x) {
        StringBuilder all = new StringBuilder();
        for (int what = 0; what < 9; what++) {
            all.append(x.told(what)).append(' ');
        }
        for (int i = 0; i < 12; i++) {
            all.append(x.queue(i)).append(' ').append(x.sample(i, 0)).append(' ')
                .append(x.sample(i, 1)).append(' ').append(x.sample(i, 2)).append(' ');
        }
        for (int t = 0; t < x.told(1); t++) {
            all.append(x.task(t, 0)).append(' ').append(x.task(t, 1)).append(' ').append(x.task(t, 2)).append(' ');
        }
        for (int g = 0; g < x.told(2); g++) {
            for (int what = 0; what < 11; what++) {
                all.append(x.of(g, what)).append(' ');
            }
            for (int e = 0; e < x.of(g, 5); e++) {
                all.append(x.about(g, e, 0)).append(' ').append(x.about(g, e, 1)).append(' ')
                    .append(x.about(g, e, 2)).append(' ').append(x.scaled(g, e, 1)).append(' ');
                for (int t = 0; t < x.told(1); t++) {
                    all.append(x.count(g, e, t)).append(' ');
                }
            }
            for (int t = 0; t < x.told(1); t++) {
                all.append(x.times(g, t, 0)).append(' ').append(x.times(g, t, 1)).append(' ');
            }
        }
        return all.toString();
    }

    private static void eachCallGoesBack() {
        for (int i = 0; i < STEPS; i++) {
            CounterDeals x = busy();
            Due.type(x, "c0 0 9;g0 1 0 0 4;f0;r0 9;m3 1;");
            String before = seen(x);
            long digest = x.digest();
            Due.holds("step " + i + " is not refused", step(x, i) >= 0);
            Due.is("step " + i + " leaves one", x.refused(4), 5);
            boolean hidden = i == 1 || i == 2;
            Due.holds("step " + i + " changes something", !seen(x).equals(before) || hidden && x.digest() != digest);
            Due.is("step " + i + " back", x.back(), 4);
            Due.holds("step " + i + " back as before", seen(x).equals(before));
            // The digest has how many STATES there are: one more is left.
            step(x, 8);
            x.skids(1);
            CounterDeals y = busy();
            Due.type(y, "c0 0 9;g0 1 0 0 4;f0;r0 9;m3 1;");
            step(y, 8);
            y.skids(1);
            Due.is("step " + i + " back, all", x.digest(), y.digest());
        }
    }

    private static void nothingBecomesOtherLeavesOne() {
        CounterDeals x = new CounterDeals();
        x.counters(2);
        x.masks(0, 15);
        x.rates(0, 0, 0);
        x.skids(1);
        Due.is("four STATES", x.refused(4), 4);
        Due.is("back", x.back(), 3);
        Due.is("n", x.told(0), 2);
        CounterDeals y = new CounterDeals();
        y.group(0, 1, 0, 0, 0);
        y.lives(0, 1);
        y.periods(0, 0);
        Due.is("three STATES", y.refused(4), 3);
    }

    private static void fiveAtMost() {
        CounterDeals x = new CounterDeals();
        for (int k = 0; k < 8; k++) {
            x.rates(0, k, 10 + k);
            Due.is("STATES", x.refused(4), Math.min(k + 1, 5));
        }
        for (int left = 4; left >= 0; left--) {
            Due.is("back", x.back(), left);
            Due.is("STATES", x.refused(4), left);
        }
        Due.is("none", x.back(), NO);
        Due.is("older ones are lost", x.rates(0, 2, 0), 12);
        Due.is("newer ones are taken back", x.rates(0, 3, 0), 0);
        Due.is("two now", x.refused(4), 2);
    }

    private static void refusedLeavesNone() {
        CounterDeals x = new CounterDeals();
        x.counters(5);
        x.masks(8, 0);
        x.rates(1, 0, 0);
        x.forks(1);
        x.exits(0);
        x.group(0, 0, 0, 0, 0);
        x.event(0, 0);
        x.periods(0, 0);
        x.skids(4);
        x.lives(0, 0);
        x.runs(0, 0);
        x.does();
        Due.is("STATES", x.refused(4), 0);
        Due.is("BAD", x.refused(0), 11);
        x.counters(3);
        x.counters(5);
        Due.is("back", x.back(), 0);
        Due.is("n", x.told(0), 2);
    }

    private static void refusedLeavesAllFive() {
        CounterDeals x = new CounterDeals();
        for (int v = 1; v <= 7; v++) {
            x.rates(0, 0, v);
        }
        x.counters(5);
        Due.is("an ORDER ends all", Due.does(x, "c0 0 9;f0;f9;"), -1002);
        x.event(0, 0);
        for (int left = 4; left >= 0; left--) {
            Due.is("back", x.back(), left);
        }
        Due.is("the oldest of five", x.rates(0, 0, 0), 2);
        Due.is("TASKS", x.told(1), 1);
    }

    private static void gettersLeaveNone() {
        CounterDeals x = busy();
        x.back();
        x.back();
        int states = x.refused(4);
        Due.holds("getters answer", seen(x).length() > 100);
        x.fit(7);
        x.digest();
        x.type('f');
        x.clear();
        x.does();
        Due.is("STATES", x.refused(4), states);
    }

    /** A GROUP in a place that another one had must know nothing of it. */
    private static void groupsMadeAgain() {
        CounterDeals x = new CounterDeals();
        x.rates(0, 0, 90);
        Due.type(x, "g0 3 0 1 0 0;f0;c1 0 80;r0 3;r1 2;");
        Due.is("does", x.does(), 5);
        x.clear();
        x.periods(0, 30);
        x.runs(0, 4);
        x.lives(0, 0);
        x.back();
        x.back();
        x.back();
        x.back();
        x.counters(2);
        x.forks(0);
        x.group(0, 1, 1, 0, 4);
        x.event(0, 4);
        CounterDeals y = new CounterDeals();
        y.rates(0, 0, 90);
        y.counters(2);
        y.forks(0);
        y.group(0, 1, 1, 0, 4);
        y.event(0, 4);
        Due.is("all is as in one that had none", x.digest(), y.digest());
    }

    private static void goingOnFromBack() {
        CounterDeals x = busy();
        CounterDeals y = busy();
        x.runs(0, 10);
        x.exits(1);
        x.runs(0, 10);
        x.back();
        x.back();
        x.back();
        x.runs(1, 6);
        x.exits(1);
        x.runs(0, 4);
        y.skids(1);
        y.skids(1);
        y.runs(1, 6);
        y.exits(1);
        y.runs(0, 4);
        Due.holds("as if it had not been", seen(x).equals(seen(y)));
        Due.is("STATES", x.refused(4), 5);
        Due.is("digest", x.digest(), y.digest());
    }

    private static void samplesWaitAgain() {
        CounterDeals x = new CounterDeals();
        x.rates(0, 0, 30);
        x.group(0, 1, 1, 0, 0);
        x.group(0, 1, 1, 0, 0);
        x.skids(2);
        x.periods(0, 30);
        x.runs(0, 1);
        x.periods(0, 0);
        x.periods(1, 30);
        x.runs(0, 1);
        // Due: of GROUP 0 in SLICE 2, of GROUP 1 in SLICE 3.
        x.runs(0, 1);
        Due.is("TOLD", x.told(4), 1);
        x.back();
        Due.is("TOLD no more", x.told(4), 0);
        Due.is("wait again", x.told(5), 2);
        x.runs(0, 2);
        Due.are("TOLD as if for the first time", new int[] {x.sample(0, 0), x.sample(0, 2),
            x.sample(1, 0), x.sample(1, 2), x.told(4), x.told(5)}, 0, 2, 1, 3, 2, 2);
    }
}
