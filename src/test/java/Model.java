import java.util.ArrayDeque;
import java.util.ArrayList;
import java.util.Deque;
import java.util.List;
import java.util.regex.Matcher;
import java.util.regex.Pattern;

/**
 * The document once more, written with the whole library and with no thought
 * for room: STATES are deep copies, seats are sought by counting through all
 * rows, and the FAULT of THE TEXT by a pattern and its prefixes.
 */
public final class Model {
    private static final int NONE = -1, BAD = -2, NO = -3, FULL = -4;

    private static final class Ev {
        int kind, peak, seat = NONE;
        int[] count = new int[6];

        Ev copy() {
            Ev e = new Ev();
            e.kind = kind;
            e.peak = peak;
            e.seat = seat;
            e.count = count.clone();
            return e;
        }
    }

    private static final class Gr {
        int task, weight, pinned, inherits, live = 1, turn, period, left, on;
        List<Ev> events = new ArrayList<>();
        int[] enabled = new int[6], running = new int[6];

        Gr copy() {
            Gr g = new Gr();
            g.task = task;
            g.weight = weight;
            g.pinned = pinned;
            g.inherits = inherits;
            g.live = live;
            g.turn = turn;
            g.period = period;
            g.left = left;
            g.on = on;
            for (Ev e : events) {
                g.events.add(e.copy());
            }
            g.enabled = enabled.clone();
            g.running = running.clone();
            return g;
        }
    }

    private static final class Ta {
        int parent, ended;
        int[] rate = new int[8];

        Ta copy() {
            Ta t = new Ta();
            t.parent = parent;
            t.ended = ended;
            t.rate = rate.clone();
            return t;
        }
    }

    private static final class St {
        int n = 2, skid = 1, slice, lost;
        int[] mask = {15, 15, 15, 15, 15, 15, 15, 15};
        List<Ta> tasks = new ArrayList<>();
        List<Gr> groups = new ArrayList<>();
        List<Integer> queue = new ArrayList<>();
        List<int[]> wait = new ArrayList<>();
        List<int[]> kept = new ArrayList<>();

        St copy() {
            St s = new St();
            s.n = n;
            s.skid = skid;
            s.slice = slice;
            s.lost = lost;
            s.mask = mask.clone();
            for (Ta t : tasks) {
                s.tasks.add(t.copy());
            }
            for (Gr g : groups) {
                s.groups.add(g.copy());
            }
            s.queue.addAll(queue);
            s.wait.addAll(wait);
            s.kept.addAll(kept);
            return s;
        }
    }

    private St s = new St();
    private final Deque<St> states = new ArrayDeque<>();
    private final StringBuilder text = new StringBuilder();
    private final int[] refusals = new int[3];
    private boolean quiet = false;

    public Model() {
        Ta first = new Ta();
        first.parent = NONE;
        s.tasks.add(first);
    }

    private int bad(int code) {
        if (!quiet) {
            refusals[-2 - code]++;
        }
        return code;
    }

    private void leave() {
        if (quiet) {
            return;
        }
        states.addLast(s.copy());
        if (states.size() > 5) {
            states.removeFirst();
        }
    }

    private static boolean in(int v, int a, int b) {
        return a <= v && v <= b;
    }

    private boolean isTask(int t) {
        return in(t, 0, s.tasks.size() - 1);
    }

    private boolean isGroup(int g) {
        return in(g, 0, s.groups.size() - 1);
    }

    private boolean isEvent(int g, int e) {
        return isGroup(g) && in(e, 0, s.groups.get(g).events.size() - 1);
    }

    public int counters(int v) {
        if (!in(v, 1, 4)) {
            return bad(BAD);
        }
        leave();
        int was = s.n;
        s.n = v;
        return was;
    }

    public int masks(int k, int v) {
        if (!in(k, 0, 7) || !in(v, 0, 15)) {
            return bad(BAD);
        }
        leave();
        int was = s.mask[k];
        s.mask[k] = v;
        return was;
    }

    public int rates(int t, int k, int v) {
        if (!isTask(t) || !in(k, 0, 7) || !in(v, 0, 99)) {
            return bad(BAD);
        }
        leave();
        int was = s.tasks.get(t).rate[k];
        s.tasks.get(t).rate[k] = v;
        return was;
    }

    public int forks(int t) {
        if (!isTask(t)) {
            return bad(BAD);
        }
        if (s.tasks.get(t).ended == 1) {
            return bad(NO);
        }
        if (s.tasks.size() == 6) {
            return bad(FULL);
        }
        leave();
        Ta child = s.tasks.get(t).copy();
        child.parent = t;
        s.tasks.add(child);
        return s.tasks.size() - 1;
    }

    public int exits(int t) {
        if (!isTask(t) || t == 0) {
            return bad(BAD);
        }
        boolean open = false;
        for (Ta c : s.tasks) {
            open |= c.parent == t && c.ended == 0;
        }
        if (s.tasks.get(t).ended == 1 || open) {
            return bad(NO);
        }
        leave();
        int p = s.tasks.get(t).parent;
        s.tasks.get(t).ended = 1;
        for (Gr g : s.groups) {
            g.enabled[p] += g.enabled[t];
            g.enabled[t] = 0;
            g.running[p] += g.running[t];
            g.running[t] = 0;
            for (Ev e : g.events) {
                e.count[p] += e.count[t];
                e.count[t] = 0;
            }
        }
        return p;
    }

    public int group(int t, int w, int pinned, int inherits, int k) {
        if (!isTask(t) || !in(w, 1, 5) || !in(pinned, 0, 1) || !in(inherits, 0, 1) || !in(k, 0, 7)) {
            return bad(BAD);
        }
        if (s.groups.size() == 6) {
            return bad(FULL);
        }
        leave();
        Gr g = new Gr();
        g.task = t;
        g.weight = w;
        g.pinned = pinned;
        g.inherits = inherits;
        Ev e = new Ev();
        e.kind = k;
        g.events.add(e);
        s.groups.add(g);
        if (pinned == 0) {
            s.queue.add(s.groups.size() - 1);
        }
        return s.groups.size() - 1;
    }

    public int event(int g, int k) {
        if (!isGroup(g) || !in(k, 0, 7)) {
            return bad(BAD);
        }
        if (s.groups.get(g).events.size() == 4) {
            return bad(FULL);
        }
        leave();
        Ev e = new Ev();
        e.kind = k;
        s.groups.get(g).events.add(e);
        return s.groups.get(g).events.size() - 1;
    }

    public int periods(int g, int v) {
        if (!isGroup(g) || !(v == 0 || in(v, 30, 200))) {
            return bad(BAD);
        }
        leave();
        Gr x = s.groups.get(g);
        int was = x.period;
        x.period = v;
        x.left = 0;
        return was;
    }

    public int skids(int v) {
        if (!in(v, 0, 3)) {
            return bad(BAD);
        }
        leave();
        int was = s.skid;
        s.skid = v;
        return was;
    }

    public int lives(int g, int on) {
        if (!isGroup(g) || !in(on, 0, 1)) {
            return bad(BAD);
        }
        leave();
        int was = s.groups.get(g).live;
        s.groups.get(g).live = on;
        return was;
    }

    public int runs(int t, int n) {
        if (!isTask(t) || !in(n, 1, 20)) {
            return bad(BAD);
        }
        if (s.tasks.get(t).ended == 1) {
            return bad(NO);
        }
        leave();
        for (int i = 0; i < n; i++) {
            slice(t);
        }
        return s.slice;
    }

    private boolean watches(Gr g, int t) {
        if (g.live == 0) {
            return false;
        }
        if (g.task == t) {
            return true;
        }
        int up = t;
        while (g.inherits == 1 && up != NONE) {
            if (up == g.task) {
                return true;
            }
            up = s.tasks.get(up).parent;
        }
        return false;
    }

    /** The first row of seats for EVENTS of these GROUPS, or null. */
    private List<Integer> seats(List<Gr> joined) {
        List<Integer> masks = new ArrayList<>();
        for (Gr g : joined) {
            for (Ev e : g.events) {
                masks.add(s.mask[e.kind]);
            }
        }
        int m = masks.size();
        if (m > s.n) {
            return null;
        }
        int rows = (int) Math.pow(s.n, m);
        for (int row = 0; row < rows; row++) {
            List<Integer> seats = new ArrayList<>();
            int rest = row;
            for (int i = 0; i < m; i++) {
                seats.add(0, rest % s.n);
                rest /= s.n;
            }
            boolean good = seats.stream().distinct().count() == m;
            for (int i = 0; i < m; i++) {
                good &= (masks.get(i) >> seats.get(i)) % 2 == 1;
            }
            if (good) {
                return seats;
            }
        }
        return null;
    }

    private void slice(int t) {
        List<Gr> watched = new ArrayList<>();
        for (Gr g : s.groups) {
            if (watches(g, t)) {
                watched.add(g);
            }
        }
        List<Gr> asked = new ArrayList<>();
        for (Gr g : watched) {
            if (g.pinned == 1) {
                asked.add(g);
            }
        }
        for (int g : s.queue) {
            if (watched.contains(s.groups.get(g))) {
                asked.add(s.groups.get(g));
            }
        }
        List<Gr> joined = new ArrayList<>();
        for (Gr g : asked) {
            joined.add(g);
            if (seats(joined) == null) {
                joined.remove(joined.size() - 1);
                if (g.pinned == 1) {
                    g.live = 0;
                }
            }
        }
        for (Gr g : s.groups) {
            g.on = 0;
            for (Ev e : g.events) {
                e.seat = NONE;
            }
        }
        List<Integer> row = seats(joined);
        for (Gr g : joined) {
            g.on = 1;
            g.running[t]++;
            for (Ev e : g.events) {
                int rate = s.tasks.get(t).rate[e.kind];
                e.seat = row.remove(0);
                e.count[t] += rate;
                e.peak = Math.max(e.peak, rate);
            }
        }
        for (Gr g : watched) {
            g.enabled[t]++;
        }
        samples(t);
        for (int i = 0; i < s.queue.size(); i++) {
            int number = s.queue.get(i);
            Gr g = s.groups.get(number);
            if (watched.contains(g)) {
                g.turn++;
                if (g.turn >= g.weight) {
                    g.turn = 0;
                    s.queue.remove(i);
                    s.queue.add(number);
                }
                break;
            }
        }
        s.slice++;
    }

    private void samples(int t) {
        for (int i = 0; i < s.groups.size(); i++) {
            Gr g = s.groups.get(i);
            if (g.on == 0 || g.period == 0) {
                continue;
            }
            g.left += s.tasks.get(t).rate[g.events.get(0).kind];
            while (g.left >= g.period) {
                g.left -= g.period;
                s.wait.add(new int[] {i, s.slice + s.skid});
            }
        }
        List<int[]> still = new ArrayList<>();
        for (int[] w : s.wait) {
            if (w[1] > s.slice) {
                still.add(w);
            } else if (s.kept.size() < 12) {
                s.kept.add(new int[] {w[0], t, s.slice});
            } else {
                s.lost++;
            }
        }
        s.wait = still;
    }

    public int task(int t, int what) {
        if (!isTask(t) || !in(what, 0, 2)) {
            return bad(BAD);
        }
        if (what == 0) {
            return s.tasks.get(t).parent;
        }
        if (what == 1) {
            return s.tasks.get(t).ended;
        }
        int bits = 0;
        for (int g = 0; g < s.groups.size(); g++) {
            bits += watches(s.groups.get(g), t) ? 1 << g : 0;
        }
        return bits;
    }

    public int of(int g, int what) {
        if (!isGroup(g) || !in(what, 0, 10)) {
            return bad(BAD);
        }
        Gr x = s.groups.get(g);
        int[] all = {x.task, x.weight, x.pinned, x.inherits, x.live, x.events.size(), x.turn,
            x.period, x.left, s.queue.indexOf(g), x.on};
        return all[what];
    }

    public int about(int g, int e, int what) {
        if (!isEvent(g, e) || !in(what, 0, 2)) {
            return bad(BAD);
        }
        Ev x = s.groups.get(g).events.get(e);
        return new int[] {x.kind, x.peak, x.seat}[what];
    }

    private static int sum(int[] row) {
        int all = 0;
        for (int v : row) {
            all += v;
        }
        return all;
    }

    public int count(int g, int e, int t) {
        if (!isEvent(g, e) || !(t == NONE || isTask(t))) {
            return bad(BAD);
        }
        int[] row = s.groups.get(g).events.get(e).count;
        return t == NONE ? sum(row) : row[t];
    }

    public int times(int g, int t, int what) {
        if (!isGroup(g) || !(t == NONE || isTask(t)) || !in(what, 0, 1)) {
            return bad(BAD);
        }
        int[] row = what == 0 ? s.groups.get(g).enabled : s.groups.get(g).running;
        return t == NONE ? sum(row) : row[t];
    }

    public int scaled(int g, int e, int what) {
        if (!isEvent(g, e) || !in(what, 0, 1)) {
            return bad(BAD);
        }
        long enabled = sum(s.groups.get(g).enabled);
        long running = sum(s.groups.get(g).running);
        Ev x = s.groups.get(g).events.get(e);
        long count = sum(x.count);
        if (what == 1) {
            return Math.toIntExact(count + (enabled - running) * x.peak);
        }
        return running == 0 ? NONE : Math.toIntExact(Math.floorDiv(count * enabled, running));
    }

    public int fit(int groups) {
        List<Gr> some = new ArrayList<>();
        for (int g = 0; g < 32; g++) {
            if ((groups >> g & 1) == 1) {
                if (!isGroup(g)) {
                    return bad(BAD);
                }
                some.add(s.groups.get(g));
            }
        }
        return seats(some) == null ? 0 : 1;
    }

    public int queue(int i) {
        if (i < 0) {
            return bad(BAD);
        }
        return i < s.queue.size() ? s.queue.get(i) : NONE;
    }

    public int sample(int i, int what) {
        if (i < 0 || !in(what, 0, 2)) {
            return bad(BAD);
        }
        return i < s.kept.size() ? s.kept.get(i)[what] : NONE;
    }

    public int told(int what) {
        if (!in(what, 0, 8)) {
            return bad(BAD);
        }
        int on = 0;
        for (int g = 0; g < s.groups.size(); g++) {
            on += s.groups.get(g).on << g;
        }
        return new int[] {s.n, s.tasks.size(), s.groups.size(), s.slice, s.kept.size(),
            s.wait.size(), s.lost, on, s.skid}[what];
    }

    public int type(int c) {
        if (!in(c, 0, 127)) {
            return bad(BAD);
        }
        if (text.length() == 120) {
            return bad(FULL);
        }
        text.append((char) c);
        return text.length();
    }

    public int clear() {
        int had = text.length();
        text.setLength(0);
        return had;
    }

    private static final Pattern ORDERS = Pattern.compile(
        "( *(m *N +N|c *N +N +N|f *N|g *N( +N){4,7}|r *N +N) *;)+ *".replace("N", "[0-9]{1,3}"));

    private int fault() {
        for (int end = 1; end <= text.length(); end++) {
            Matcher m = ORDERS.matcher(text.substring(0, end));
            if (!m.matches() && !m.hitEnd()) {
                return end - 1;
            }
        }
        return ORDERS.matcher(text).matches() ? NONE : text.length();
    }

    public int does() {
        int fault = fault();
        if (fault != NONE) {
            return -10 - fault;
        }
        St before = s.copy();
        quiet = true;
        int answer = 0;
        for (String order : text.toString().trim().split(";")) {
            if (order(order.trim()) < 0) {
                s = before;
                answer = -1000 - answer;
                break;
            }
            answer++;
        }
        quiet = false;
        if (answer >= 0) {
            St after = s;
            s = before;
            leave();
            s = after;
        }
        return answer;
    }

    private int order(String order) {
        String[] parts = order.substring(1).trim().split(" +");
        int[] v = new int[parts.length];
        for (int i = 0; i < v.length; i++) {
            v[i] = Integer.parseInt(parts[i]);
        }
        switch (order.charAt(0)) {
            case 'm':
                return masks(v[0], v[1]);
            case 'c':
                return rates(v[0], v[1], v[2]);
            case 'f':
                return forks(v[0]);
            case 'r':
                return runs(v[0], v[1]);
            default:
                int g = group(v[0], v[1], v[2], v[3], v[4]);
                int least = g;
                for (int i = 5; i < v.length; i++) {
                    least = Math.min(least, event(g, v[i]));
                }
                return least;
        }
    }

    public int back() {
        if (states.isEmpty()) {
            return bad(NO);
        }
        s = states.removeLast();
        return states.size();
    }

    public int refused(int what) {
        if (!in(what, 0, 4)) {
            return bad(BAD);
        }
        return what < 3 ? refusals[what] : what == 3 ? text.length() : states.size();
    }

    public long digest() {
        List<Integer> all = new ArrayList<>();
        for (int i = 0; i < 5; i++) {
            all.add(refused(i));
        }
        for (int i = 0; i < 9; i++) {
            all.add(told(i));
        }
        for (int k = 0; k < 8; k++) {
            all.add(s.mask[k]);
        }
        for (int t = 0; t < s.tasks.size(); t++) {
            for (int i = 0; i < 3; i++) {
                all.add(task(t, i));
            }
            for (int k = 0; k < 8; k++) {
                all.add(s.tasks.get(t).rate[k]);
            }
        }
        for (int g = 0; g < s.groups.size(); g++) {
            for (int i = 0; i < 11; i++) {
                all.add(of(g, i));
            }
            for (int e = 0; e < s.groups.get(g).events.size(); e++) {
                for (int i = 0; i < 3; i++) {
                    all.add(about(g, e, i));
                }
                for (int t = 0; t < s.tasks.size(); t++) {
                    all.add(count(g, e, t));
                }
                all.add(scaled(g, e, 0));
                all.add(scaled(g, e, 1));
            }
            for (int t = 0; t < s.tasks.size(); t++) {
                all.add(times(g, t, 0));
                all.add(times(g, t, 1));
            }
        }
        for (int[] kept : s.kept) {
            for (int v : kept) {
                all.add(v);
            }
        }
        long h = 2707;
        for (int v : all) {
            h = 31 * h + v;
        }
        return h;
    }
}
