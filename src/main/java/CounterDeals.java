/**
 * Counters that watch a processor, dealt to groups of events slice by slice.
 *
 * The words in capitals are those of the document. Everything that a STATE
 * holds lives in a State; this class counts refusals, keeps THE TEXT and
 * hands each call on. All rows are made in constructors: no call makes an
 * object.
 */
public final class CounterDeals {
    public static final int NONE = -1, BAD = -2, NO = -3, FULL = -4;

    private static final int MOST_COUNTERS = 4;
    private static final int KINDS = 8;
    private static final int MOST_MASK = 15;
    private static final int MOST_RATE = 99;
    private static final int MOST_TASKS = 6;
    private static final int MOST_GROUPS = 6;
    private static final int MOST_EVENTS = 4;
    private static final int MOST_WEIGHT = 5;
    private static final int LEAST_PERIOD = 30;
    private static final int MOST_PERIOD = 200;
    private static final int MOST_SKID = 3;
    private static final int MOST_SLICES = 20;
    private static final int MOST_KEPT = 12;
    private static final int MOST_STATES = 5;
    private static final int MOST_BYTES = 120;
    private static final int MOST_BYTE = 127;
    // 4 GROUPS can be ON, each adds 4 SAMPLES at most (29 + 99 by 30), and
    // none waits beyond the third SLICE behind its own.
    private static final int MOST_WAITING = 64;
    // The shortest ORDER, "f0;", has 3 bytes.
    private static final int MOST_ORDERS = 40;
    // t w a b and 4 KINDS.
    private static final int MOST_NUMBERS = 8;
    private static final int MOST_FIGURES = 3;

    private final State now;
    private final Past past;
    private final Text text;
    private final int[] refusals;

    public CounterDeals() {
        Seating seating = new Seating();
        now = new State(seating);
        past = new Past(seating);
        text = new Text();
        refusals = new int[3];
    }

    // ---- counters, tasks, groups

    public int counters(int v) {
        past.hold(now);
        return settle(now.putCounters(v));
    }

    public int masks(int k, int v) {
        past.hold(now);
        return settle(now.putMask(k, v));
    }

    public int rates(int t, int k, int v) {
        past.hold(now);
        return settle(now.tasks.putRate(t, k, v));
    }

    public int forks(int t) {
        past.hold(now);
        return settle(now.tasks.fork(t));
    }

    public int exits(int t) {
        past.hold(now);
        return settle(now.endTask(t));
    }

    public int group(int t, int w, int pinned, int inherits, int k) {
        past.hold(now);
        return settle(now.addGroup(t, w, pinned, inherits, k));
    }

    public int event(int g, int k) {
        past.hold(now);
        return settle(now.addEvent(g, k));
    }

    public int periods(int g, int v) {
        past.hold(now);
        return settle(now.putPeriod(g, v));
    }

    public int skids(int v) {
        past.hold(now);
        return settle(now.putSkid(v));
    }

    public int lives(int g, int on) {
        past.hold(now);
        return settle(now.putLive(g, on));
    }

    public int runs(int t, int n) {
        past.hold(now);
        return settle(now.runSlices(t, n));
    }

    // ---- what is asked

    public int task(int t, int what) {
        return answer(now.taskFact(t, what));
    }

    public int of(int g, int what) {
        return answer(now.groupFact(g, what));
    }

    public int about(int g, int e, int what) {
        return answer(now.eventFact(g, e, what));
    }

    public int count(int g, int e, int t) {
        return answer(now.countFact(g, e, t));
    }

    public int times(int g, int t, int what) {
        return answer(now.timeFact(g, t, what));
    }

    public int scaled(int g, int e, int what) {
        return answer(now.scaledFact(g, e, what));
    }

    public int fit(int groups) {
        return answer(now.fitFact(groups));
    }

    public int queue(int i) {
        return answer(now.queueFact(i));
    }

    public int sample(int i, int what) {
        return answer(now.samples.keptFact(i, what));
    }

    public int told(int what) {
        return answer(now.wholeFact(what));
    }

    // ---- texts

    public int type(int c) {
        return answer(text.addByte(c));
    }

    public int clear() {
        int had = text.length;
        text.length = 0;
        return had;
    }

    public int does() {
        int fault = text.readOrders();
        if (fault != NONE) {
            return -10 - fault;
        }
        past.hold(now);
        for (int i = 0; i < text.orders; i++) {
            if (isRefusal(carryOut(i))) {
                past.undo(now);
                return -1000 - i;
            }
        }
        past.keep();
        return text.orders;
    }

    public int back() {
        return answer(past.stepBack(now));
    }

    public int refused(int what) {
        return answer(refusedFact(what));
    }

    public long digest() {
        long h = 2707;
        for (int what = 0; what <= 4; what++) {
            h = mixed(h, refusedFact(what));
        }
        for (int what = 0; what <= 8; what++) {
            h = mixed(h, now.wholeFact(what));
        }
        for (int k = 0; k < KINDS; k++) {
            h = mixed(h, now.masks[k]);
        }
        for (int t = 0; t < now.tasks.size; t++) {
            h = mixedTask(h, t);
        }
        for (int g = 0; g < now.size; g++) {
            h = mixedGroup(h, g);
        }
        for (int i = 0; i < now.samples.kept; i++) {
            for (int what = 0; what <= 2; what++) {
                h = mixed(h, now.samples.keptFact(i, what));
            }
        }
        return h;
    }

    private static long mixed(long h, int v) {
        return 31 * h + v;
    }

    private long mixedTask(long start, int t) {
        long h = start;
        for (int what = 0; what <= 2; what++) {
            h = mixed(h, now.taskFact(t, what));
        }
        for (int k = 0; k < KINDS; k++) {
            h = mixed(h, now.tasks.rateOf(t, k));
        }
        return h;
    }

    private long mixedGroup(long start, int g) {
        long h = start;
        for (int what = 0; what <= 10; what++) {
            h = mixed(h, now.groupFact(g, what));
        }
        for (int e = 0; e < now.groups[g].events; e++) {
            h = mixedEvent(h, g, e);
        }
        for (int t = 0; t < now.tasks.size; t++) {
            h = mixed(h, now.timeFact(g, t, 0));
            h = mixed(h, now.timeFact(g, t, 1));
        }
        return h;
    }

    private long mixedEvent(long start, int g, int e) {
        long h = start;
        for (int what = 0; what <= 2; what++) {
            h = mixed(h, now.eventFact(g, e, what));
        }
        for (int t = 0; t < now.tasks.size; t++) {
            h = mixed(h, now.countFact(g, e, t));
        }
        h = mixed(h, now.scaledFact(g, e, 0));
        return mixed(h, now.scaledFact(g, e, 1));
    }

    private int refusedFact(int what) {
        switch (what) {
            case 0:
            case 1:
            case 2:
                return refusals[what];
            case 3:
                return text.length;
            case 4:
                return past.size;
            default:
                return BAD;
        }
    }

    // By THE TEXT nothing counts: this goes to the STATE, not by the calls.
    private int carryOut(int i) {
        int a = text.numberAt(i, 0);
        int b = text.numberAt(i, 1);
        int c = text.numberAt(i, 2);
        switch (text.letterAt(i)) {
            case 'm':
                return now.putMask(a, b);
            case 'c':
                return now.tasks.putRate(a, b, c);
            case 'f':
                return now.tasks.fork(a);
            case 'g':
                return carryOutGroup(i);
            case 'r':
                return now.runSlices(a, b);
            default:
                return BAD;
        }
    }

    private int carryOutGroup(int i) {
        int result = now.addGroup(text.numberAt(i, 0), text.numberAt(i, 1),
                text.numberAt(i, 2), text.numberAt(i, 3), text.numberAt(i, 4));
        int g = now.size - 1;
        for (int j = 5; j < text.numbersOf(i) && !isRefusal(result); j++) {
            result = now.addEvent(g, text.numberAt(i, j));
        }
        return result;
    }

    // Ends a call told S: only one that is not refused leaves the held STATE.
    private int settle(int result) {
        if (!isRefusal(result)) {
            past.keep();
        }
        return answer(result);
    }

    private int answer(int result) {
        if (isRefusal(result)) {
            refusals[BAD - result]++;
        }
        return result;
    }

    private static boolean isRefusal(int result) {
        return result <= BAD && result >= FULL;
    }

    private static boolean isWithin(int v, int least, int most) {
        return v >= least && v <= most;
    }

    private static int bit(boolean b) {
        return b ? 1 : 0;
    }

    private static void copyRow(int[] from, int[] to) {
        System.arraycopy(from, 0, to, 0, Math.min(from.length, to.length));
    }

    /** The TASKS, whom they came of, and the RATES of all KINDS in them. */
    private static final class Tasks {
        int size = 1;
        final int[] parents = new int[MOST_TASKS];
        final int[] ended = new int[MOST_TASKS];
        final int[] rates = new int[MOST_TASKS * KINDS];

        Tasks() {
            parents[0] = NONE;
        }

        void become(Tasks other) {
            size = other.size;
            copyRow(other.parents, parents);
            copyRow(other.ended, ended);
            copyRow(other.rates, rates);
        }

        boolean has(int t) {
            return isWithin(t, 0, size - 1);
        }

        boolean hasEnded(int t) {
            return ended[t] == 1;
        }

        int rateOf(int t, int k) {
            return rates[t * KINDS + k];
        }

        int putRate(int t, int k, int v) {
            if (!has(t) || !isWithin(k, 0, KINDS - 1) || !isWithin(v, 0, MOST_RATE)) {
                return BAD;
            }
            int was = rateOf(t, k);
            rates[t * KINDS + k] = v;
            return was;
        }

        int fork(int t) {
            if (!has(t)) {
                return BAD;
            }
            if (hasEnded(t)) {
                return NO;
            }
            if (size >= MOST_TASKS) {
                return FULL;
            }
            int child = size;
            size++;
            parents[child] = t;
            ended[child] = 0;
            System.arraycopy(rates, t * KINDS, rates, child * KINDS, KINDS);
            return child;
        }

        boolean hasOpenChild(int t) {
            for (int child = t + 1; child < size; child++) {
                if (parents[child] == t && !hasEnded(child)) {
                    return true;
                }
            }
            return false;
        }

        boolean reachesByParents(int t, int other) {
            int at = t;
            for (int steps = 0; steps < MOST_TASKS && isWithin(at, 1, MOST_TASKS - 1); steps++) {
                at = parents[at];
                if (at == other) {
                    return true;
                }
            }
            return false;
        }
    }

    /** One GROUP with its EVENTS and what it counted in each TASK. */
    private static final class Group {
        int task;
        int weight;
        boolean pinned;
        boolean inherits;
        boolean live;
        boolean on;
        int events;
        int turn;
        int period;
        int left;
        final int[] kinds = new int[MOST_EVENTS];
        final int[] peaks = new int[MOST_EVENTS];
        final int[] seats = new int[MOST_EVENTS];
        final int[] counts = new int[MOST_EVENTS * MOST_TASKS];
        final int[] enabled = new int[MOST_TASKS];
        final int[] running = new int[MOST_TASKS];

        Group() {
        }

        // The row may be one that going back has freed, so all is set anew.
        void begin(int t, int w, boolean isPinned, boolean doesInherit) {
            task = t;
            weight = w;
            pinned = isPinned;
            inherits = doesInherit;
            live = true;
            on = false;
            events = 0;
            turn = 0;
            period = 0;
            left = 0;
            for (int i = 0; i < counts.length; i++) {
                counts[i] = 0;
            }
            for (int i = 0; i < MOST_TASKS; i++) {
                enabled[i] = 0;
                running[i] = 0;
            }
        }

        void become(Group other) {
            task = other.task;
            weight = other.weight;
            pinned = other.pinned;
            inherits = other.inherits;
            live = other.live;
            on = other.on;
            events = other.events;
            turn = other.turn;
            period = other.period;
            left = other.left;
            copyRow(other.kinds, kinds);
            copyRow(other.peaks, peaks);
            copyRow(other.seats, seats);
            copyRow(other.counts, counts);
            copyRow(other.enabled, enabled);
            copyRow(other.running, running);
        }

        boolean hasEvent(int e) {
            return isWithin(e, 0, events - 1);
        }

        int append(int k) {
            if (events >= MOST_EVENTS) {
                return FULL;
            }
            int e = events;
            events++;
            kinds[e] = k;
            peaks[e] = 0;
            seats[e] = NONE;
            return e;
        }

        void leaveSeats() {
            on = false;
            for (int e = 0; e < events; e++) {
                seats[e] = NONE;
            }
        }

        void countSlice(Tasks tasks, int t) {
            running[t]++;
            for (int e = 0; e < events; e++) {
                int rate = tasks.rateOf(t, kinds[e]);
                counts[e * MOST_TASKS + t] += rate;
                peaks[e] = Math.max(peaks[e], rate);
            }
        }

        void moveTo(int from, int to) {
            moveCell(enabled, from, to);
            moveCell(running, from, to);
            for (int e = 0; e < events; e++) {
                moveCell(counts, e * MOST_TASKS + from, e * MOST_TASKS + to);
            }
        }

        private static void moveCell(int[] row, int from, int to) {
            row[to] += row[from];
            row[from] = 0;
        }

        int countIn(int e, int t) {
            return cellOrSum(counts, e * MOST_TASKS, t);
        }

        int enabledIn(int t) {
            return cellOrSum(enabled, 0, t);
        }

        int runningIn(int t) {
            return cellOrSum(running, 0, t);
        }

        private static int cellOrSum(int[] row, int start, int t) {
            if (t != NONE) {
                return row[start + t];
            }
            int sum = 0;
            for (int i = 0; i < MOST_TASKS; i++) {
                sum += row[start + i];
            }
            return sum;
        }

        int scaledCount(int e) {
            int ran = runningIn(NONE);
            if (ran == 0) {
                return NONE;
            }
            return (int) ((long) countIn(e, NONE) * enabledIn(NONE) / ran);
        }

        int mostCount(int e) {
            return countIn(e, NONE) + (enabledIn(NONE) - runningIn(NONE)) * peaks[e];
        }
    }

    /** A row of EVENTS that are to sit on COUNTERS together. */
    private static final class Seating {
        int size;
        int free;
        final int[] wants = new int[MOST_COUNTERS];
        final int[] seats = new int[MOST_COUNTERS];

        Seating() {
        }

        void open(int counters) {
            size = 0;
            free = (1 << counters) - 1;
        }

        boolean take(Group group, int[] masks) {
            int before = size;
            if (before + group.events > MOST_COUNTERS) {
                return false;
            }
            for (int e = 0; e < group.events; e++) {
                wants[size] = masks[group.kinds[e]];
                size++;
            }
            if (sit(wants, seats, size, 0, free)) {
                return true;
            }
            size = before;
            return false;
        }

        // A GROUP that was left out may have spoilt the seats as it was tried.
        void sitAll() {
            sit(wants, seats, size, 0, free);
        }

        // Tries lesser COUNTERS first, so the first way found is the first row.
        private static boolean sit(int[] wants, int[] seats, int size, int at, int free) {
            if (at >= size) {
                return true;
            }
            for (int c = 0; c < MOST_COUNTERS; c++) {
                int seat = 1 << c;
                if ((wants[at] & free & seat) != 0) {
                    seats[at] = c;
                    if (sit(wants, seats, size, at + 1, free & ~seat)) {
                        return true;
                    }
                }
            }
            return false;
        }
    }

    /** SAMPLES that wait, that are kept, and how many were LOST. */
    private static final class Samples {
        int waiting;
        int kept;
        int lost;
        final int[] waitGroups = new int[MOST_WAITING];
        final int[] waitDues = new int[MOST_WAITING];
        final int[] keptGroups = new int[MOST_KEPT];
        final int[] keptTasks = new int[MOST_KEPT];
        final int[] keptSlices = new int[MOST_KEPT];

        Samples() {
        }

        void become(Samples other) {
            waiting = other.waiting;
            kept = other.kept;
            lost = other.lost;
            System.arraycopy(other.waitGroups, 0, waitGroups, 0, waiting);
            System.arraycopy(other.waitDues, 0, waitDues, 0, waiting);
            System.arraycopy(other.keptGroups, 0, keptGroups, 0, kept);
            System.arraycopy(other.keptTasks, 0, keptTasks, 0, kept);
            System.arraycopy(other.keptSlices, 0, keptSlices, 0, kept);
        }

        void await(int g, int due) {
            if (waiting < MOST_WAITING) {
                waitGroups[waiting] = g;
                waitDues[waiting] = due;
                waiting++;
            }
        }

        // SKID may have become less, so one that came later can be due first:
        // the row is not told from its start alone.
        void tellDue(int t, int slice) {
            int still = 0;
            for (int i = 0; i < waiting; i++) {
                if (waitDues[i] <= slice) {
                    keep(waitGroups[i], t, slice);
                } else {
                    waitGroups[still] = waitGroups[i];
                    waitDues[still] = waitDues[i];
                    still++;
                }
            }
            waiting = still;
        }

        private void keep(int g, int t, int slice) {
            if (kept >= MOST_KEPT) {
                lost++;
                return;
            }
            keptGroups[kept] = g;
            keptTasks[kept] = t;
            keptSlices[kept] = slice;
            kept++;
        }

        int keptFact(int i, int what) {
            if (i < 0 || !isWithin(what, 0, 2)) {
                return BAD;
            }
            if (i >= kept) {
                return NONE;
            }
            switch (what) {
                case 0:
                    return keptGroups[i];
                case 1:
                    return keptTasks[i];
                default:
                    return keptSlices[i];
            }
        }
    }

    /** All that a STATE holds. */
    private static final class State {
        int counters = 2;
        int skid = 1;
        int slice;
        int size;
        int queued;
        final int[] masks = new int[KINDS];
        final Tasks tasks = new Tasks();
        final Group[] groups = new Group[MOST_GROUPS];
        final int[] line = new int[MOST_GROUPS];
        final Samples samples = new Samples();
        // Shared by all STATES: it is opened anew for each dealing, so no
        // STATE needs rows of its own for it.
        final Seating seating;

        State(Seating shared) {
            seating = shared;
            for (int k = 0; k < KINDS; k++) {
                masks[k] = MOST_MASK;
            }
            for (int g = 0; g < MOST_GROUPS; g++) {
                groups[g] = new Group();
            }
        }

        void become(State other) {
            counters = other.counters;
            skid = other.skid;
            slice = other.slice;
            size = other.size;
            queued = other.queued;
            copyRow(other.masks, masks);
            tasks.become(other.tasks);
            for (int g = 0; g < size; g++) {
                groups[g].become(other.groups[g]);
            }
            copyRow(other.line, line);
            samples.become(other.samples);
        }

        boolean hasGroup(int g) {
            return isWithin(g, 0, size - 1);
        }

        boolean hasEvent(int g, int e) {
            return hasGroup(g) && groups[g].hasEvent(e);
        }

        int putCounters(int v) {
            if (!isWithin(v, 1, MOST_COUNTERS)) {
                return BAD;
            }
            int was = counters;
            counters = v;
            return was;
        }

        int putMask(int k, int v) {
            if (!isWithin(k, 0, KINDS - 1) || !isWithin(v, 0, MOST_MASK)) {
                return BAD;
            }
            int was = masks[k];
            masks[k] = v;
            return was;
        }

        int endTask(int t) {
            if (!tasks.has(t) || t == 0) {
                return BAD;
            }
            if (tasks.hasEnded(t) || tasks.hasOpenChild(t)) {
                return NO;
            }
            int parent = tasks.parents[t];
            tasks.ended[t] = 1;
            for (int g = 0; g < size; g++) {
                groups[g].moveTo(t, parent);
            }
            return parent;
        }

        int addGroup(int t, int w, int pinned, int inherits, int k) {
            if (!tasks.has(t) || !isWithin(w, 1, MOST_WEIGHT) || !isWithin(pinned, 0, 1)
                    || !isWithin(inherits, 0, 1) || !isWithin(k, 0, KINDS - 1)) {
                return BAD;
            }
            if (size >= MOST_GROUPS) {
                return FULL;
            }
            int g = size;
            size++;
            groups[g].begin(t, w, pinned == 1, inherits == 1);
            groups[g].append(k);
            if (pinned == 0 && queued < MOST_GROUPS) {
                line[queued] = g;
                queued++;
            }
            return g;
        }

        int addEvent(int g, int k) {
            if (!hasGroup(g) || !isWithin(k, 0, KINDS - 1)) {
                return BAD;
            }
            return groups[g].append(k);
        }

        int putPeriod(int g, int v) {
            if (!hasGroup(g) || (v != 0 && !isWithin(v, LEAST_PERIOD, MOST_PERIOD))) {
                return BAD;
            }
            int was = groups[g].period;
            groups[g].period = v;
            groups[g].left = 0;
            return was;
        }

        int putSkid(int v) {
            if (!isWithin(v, 0, MOST_SKID)) {
                return BAD;
            }
            int was = skid;
            skid = v;
            return was;
        }

        int putLive(int g, int on) {
            if (!hasGroup(g) || !isWithin(on, 0, 1)) {
                return BAD;
            }
            int was = bit(groups[g].live);
            groups[g].live = on == 1;
            return was;
        }

        int runSlices(int t, int n) {
            if (!tasks.has(t) || !isWithin(n, 1, MOST_SLICES)) {
                return BAD;
            }
            if (tasks.hasEnded(t)) {
                return NO;
            }
            for (int i = 0; i < n; i++) {
                runSlice(t);
            }
            return slice;
        }

        private void runSlice(int t) {
            int watchers = watchersOf(t);
            dealCounters(watchers);
            countSlice(t, watchers);
            takeSamples(t);
            samples.tellDue(t, slice);
            takeTurn(watchers);
            slice++;
        }

        private int watchersOf(int t) {
            int watchers = 0;
            for (int g = 0; g < size; g++) {
                Group group = groups[g];
                boolean own = group.task == t;
                boolean inherited = group.inherits && tasks.reachesByParents(t, group.task);
                if (group.live && (own || inherited)) {
                    watchers |= 1 << g;
                }
            }
            return watchers;
        }

        private static boolean isIn(int bits, int g) {
            return (bits & (1 << g)) != 0;
        }

        private void dealCounters(int watchers) {
            seating.open(counters);
            for (int g = 0; g < size; g++) {
                groups[g].leaveSeats();
            }
            for (int g = 0; g < size; g++) {
                Group group = groups[g];
                if (group.pinned && isIn(watchers, g)) {
                    group.on = seating.take(group, masks);
                    group.live = group.on;
                }
            }
            for (int i = 0; i < queued; i++) {
                Group group = groups[line[i]];
                if (isIn(watchers, line[i])) {
                    group.on = seating.take(group, masks);
                }
            }
            seating.sitAll();
            showSeats();
        }

        // Goes as the GROUPS JOINED, since the seats stand in that order.
        private void showSeats() {
            int from = 0;
            for (int g = 0; g < size; g++) {
                if (groups[g].pinned && groups[g].on) {
                    from = showSeatsOf(groups[g], from);
                }
            }
            for (int i = 0; i < queued; i++) {
                if (groups[line[i]].on) {
                    from = showSeatsOf(groups[line[i]], from);
                }
            }
        }

        private int showSeatsOf(Group group, int from) {
            int at = from;
            for (int e = 0; e < group.events && at < MOST_COUNTERS; e++) {
                group.seats[e] = seating.seats[at];
                at++;
            }
            return at;
        }

        private void countSlice(int t, int watchers) {
            for (int g = 0; g < size; g++) {
                if (isIn(watchers, g)) {
                    groups[g].enabled[t]++;
                }
                if (groups[g].on) {
                    groups[g].countSlice(tasks, t);
                }
            }
        }

        private void takeSamples(int t) {
            for (int g = 0; g < size; g++) {
                Group group = groups[g];
                if (group.on && group.period > 0) {
                    group.left += tasks.rateOf(t, group.kinds[0]);
                    int more = group.left / group.period;
                    group.left -= more * group.period;
                    for (int i = 0; i < more; i++) {
                        samples.await(g, slice + skid);
                    }
                }
            }
        }

        private void takeTurn(int watchers) {
            for (int i = 0; i < queued; i++) {
                if (isIn(watchers, line[i])) {
                    Group group = groups[line[i]];
                    group.turn++;
                    if (group.turn >= group.weight) {
                        group.turn = 0;
                        moveToEnd(i);
                    }
                    return;
                }
            }
        }

        private void moveToEnd(int i) {
            int g = line[i];
            for (int j = i; j + 1 < queued; j++) {
                line[j] = line[j + 1];
            }
            line[queued - 1] = g;
        }

        int taskFact(int t, int what) {
            if (!tasks.has(t)) {
                return BAD;
            }
            switch (what) {
                case 0:
                    return tasks.parents[t];
                case 1:
                    return tasks.ended[t];
                case 2:
                    return watchersOf(t);
                default:
                    return BAD;
            }
        }

        int groupFact(int g, int what) {
            if (!hasGroup(g)) {
                return BAD;
            }
            Group group = groups[g];
            switch (what) {
                case 0:
                    return group.task;
                case 1:
                    return group.weight;
                case 2:
                    return bit(group.pinned);
                case 3:
                    return bit(group.inherits);
                case 4:
                    return bit(group.live);
                case 5:
                    return group.events;
                case 6:
                    return group.turn;
                case 7:
                    return group.period;
                case 8:
                    return group.left;
                case 9:
                    return placeInLine(g);
                case 10:
                    return bit(group.on);
                default:
                    return BAD;
            }
        }

        private int placeInLine(int g) {
            for (int i = 0; i < queued; i++) {
                if (line[i] == g) {
                    return i;
                }
            }
            return NONE;
        }

        int eventFact(int g, int e, int what) {
            if (!hasEvent(g, e)) {
                return BAD;
            }
            switch (what) {
                case 0:
                    return groups[g].kinds[e];
                case 1:
                    return groups[g].peaks[e];
                case 2:
                    return groups[g].seats[e];
                default:
                    return BAD;
            }
        }

        int countFact(int g, int e, int t) {
            if (!hasEvent(g, e) || (t != NONE && !tasks.has(t))) {
                return BAD;
            }
            return groups[g].countIn(e, t);
        }

        int timeFact(int g, int t, int what) {
            if (!hasGroup(g) || (t != NONE && !tasks.has(t)) || !isWithin(what, 0, 1)) {
                return BAD;
            }
            return what == 0 ? groups[g].enabledIn(t) : groups[g].runningIn(t);
        }

        int scaledFact(int g, int e, int what) {
            if (!hasEvent(g, e) || !isWithin(what, 0, 1)) {
                return BAD;
            }
            return what == 0 ? groups[g].scaledCount(e) : groups[g].mostCount(e);
        }

        int fitFact(int bits) {
            if (!isWithin(bits, 0, (1 << size) - 1)) {
                return BAD;
            }
            seating.open(counters);
            for (int g = 0; g < size; g++) {
                if (isIn(bits, g) && !seating.take(groups[g], masks)) {
                    return 0;
                }
            }
            return 1;
        }

        int queueFact(int i) {
            if (i < 0) {
                return BAD;
            }
            return i < queued ? line[i] : NONE;
        }

        int wholeFact(int what) {
            switch (what) {
                case 0:
                    return counters;
                case 1:
                    return tasks.size;
                case 2:
                    return size;
                case 3:
                    return slice;
                case 4:
                    return samples.kept;
                case 5:
                    return samples.waiting;
                case 6:
                    return samples.lost;
                case 7:
                    return groupsOn();
                case 8:
                    return skid;
                default:
                    return BAD;
            }
        }

        private int groupsOn() {
            int bits = 0;
            for (int g = 0; g < size; g++) {
                bits |= bit(groups[g].on) << g;
            }
            return bits;
        }
    }

    /**
     * The STATES to go back to, in a ring with one row more than are kept:
     * that row holds how all was ahead of the call at hand.
     */
    private static final class Past {
        private static final int ROWS = MOST_STATES + 1;
        int size;
        int next;
        final State[] states = new State[ROWS];

        Past(Seating shared) {
            for (int i = 0; i < ROWS; i++) {
                states[i] = new State(shared);
            }
        }

        void hold(State state) {
            states[next].become(state);
        }

        void undo(State state) {
            state.become(states[next]);
        }

        void keep() {
            next = (next + 1) % ROWS;
            size = Math.min(size + 1, MOST_STATES);
        }

        int stepBack(State state) {
            if (size <= 0) {
                return NO;
            }
            next = (next + ROWS - 1) % ROWS;
            size--;
            state.become(states[next]);
            return size;
        }
    }

    /** THE TEXT, and the ORDERS that were read in it last. */
    private static final class Text {
        int length;
        int orders;
        final int[] bytes = new int[MOST_BYTES];
        final int[] letters = new int[MOST_ORDERS];
        final int[] sizes = new int[MOST_ORDERS];
        final int[] numbers = new int[MOST_ORDERS * MOST_NUMBERS];
        // The ORDER that is being read: its letter (0: none is open), and how
        // many figures the number has so far (0: no number is open).
        private int letter;
        private int figures;

        Text() {
        }

        int addByte(int c) {
            if (!isWithin(c, 0, MOST_BYTE)) {
                return BAD;
            }
            if (length >= MOST_BYTES) {
                return FULL;
            }
            bytes[length] = c;
            length++;
            return length;
        }

        int letterAt(int i) {
            return isWithin(i, 0, orders - 1) ? letters[i] : 0;
        }

        int numbersOf(int i) {
            return isWithin(i, 0, orders - 1) ? sizes[i] : 0;
        }

        int numberAt(int i, int j) {
            return isWithin(j, 0, numbersOf(i) - 1) ? numbers[i * MOST_NUMBERS + j] : NONE;
        }

        // Answers the FAULT, or NONE.
        int readOrders() {
            orders = 0;
            letter = 0;
            figures = 0;
            for (int i = 0; i < length; i++) {
                if (!readByte(bytes[i])) {
                    return i;
                }
            }
            return letter != 0 || orders == 0 ? length : NONE;
        }

        // Each of the reading methods answers whether the byte can stand there.
        private boolean readByte(int c) {
            if (c == ' ') {
                figures = 0;
                return true;
            }
            if (letter == 0) {
                return readLetter(c);
            }
            if (isWithin(c, '0', '9')) {
                return readFigure(c - '0');
            }
            return c == ';' && readEnd();
        }

        private boolean readLetter(int c) {
            if (mostNumbers(c) == 0 || orders >= MOST_ORDERS) {
                return false;
            }
            letter = c;
            letters[orders] = c;
            sizes[orders] = 0;
            return true;
        }

        private boolean readFigure(int figure) {
            if (figures == 0) {
                return readFirstFigure(figure);
            }
            if (figures >= MOST_FIGURES) {
                return false;
            }
            int at = orders * MOST_NUMBERS + sizes[orders] - 1;
            numbers[at] = 10 * numbers[at] + figure;
            figures++;
            return true;
        }

        private boolean readFirstFigure(int figure) {
            if (sizes[orders] >= mostNumbers(letter)) {
                return false;
            }
            numbers[orders * MOST_NUMBERS + sizes[orders]] = figure;
            sizes[orders]++;
            figures = 1;
            return true;
        }

        private boolean readEnd() {
            if (sizes[orders] < leastNumbers(letter)) {
                return false;
            }
            orders++;
            letter = 0;
            figures = 0;
            return true;
        }

        // 0: no ORDER begins so.
        private static int mostNumbers(int c) {
            switch (c) {
                case 'f':
                    return 1;
                case 'm':
                case 'r':
                    return 2;
                case 'c':
                    return 3;
                case 'g':
                    return MOST_NUMBERS;
                default:
                    return 0;
            }
        }

        private static int leastNumbers(int c) {
            return c == 'g' ? 5 : mostNumbers(c);
        }
    }
}
