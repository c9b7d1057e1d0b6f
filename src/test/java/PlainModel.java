import java.util.ArrayList;
import java.util.Arrays;
import java.util.List;
import java.util.regex.Matcher;
import java.util.regex.Pattern;

/**
 * The document written a second time, as plainly as can be: nothing is kept that could be worked out anew, and the
 * Java library is used freely. ModelTest holds ReservoirMind against it.
 */
public final class PlainModel {
    private static final int NONE = -1, BAD = -2, STATE = -3, FULL = -4;
    private static final long NO = Long.MIN_VALUE;
    private static final String CLAUSE = "(d[0-9]{3}[0-9]{1,2}\\.[0-9]{1,2}\\.[0-9]{1,2}|q[0-9]{1,2}\\.[0-9]{3}"
        + "|p[0-9]{4}|[ef][0-9]{1,2}\\.[0-9]|c[0-9]{1,2})";
    private static final Pattern TEXT = Pattern.compile(CLAUSE + "(;" + CLAUSE + "){0,11}");

    /** A demand is kind, rank, wants, worth, from, to; null once it is none in thought. */
    private static final class World {
        int cap = 8;
        int horizon = 6;
        int harm = 2;
        int left = 3;
        int[][] inflow = new int[12][];
        int[][] part = {{1, 1, 1}, {1, 1, 1}, {1, 1, 1}};
        int[] dries = new int[12];
        int[] flood = new int[12];
        List<int[]> demands = new ArrayList<>();
        private Float[][][] memo = null;

        World() {
            for (int m = 0; m < 12; m++) {
                inflow[m] = new int[] {1, 2, 4};
            }
        }

        World twin() {
            World w = new World();
            w.cap = cap;
            w.horizon = horizon;
            w.harm = harm;
            w.left = left;
            for (int m = 0; m < 12; m++) {
                w.inflow[m] = inflow[m].clone();
            }
            for (int i = 0; i < 3; i++) {
                w.part[i] = part[i].clone();
            }
            w.dries = dries.clone();
            w.flood = flood.clone();
            for (int[] d : demands) {
                w.demands.add(d == null ? null : d.clone());
            }
            return w;
        }

        int wanted(int[] d, int month) {
            int times = 0;
            for (int m = d[4];; m = (m + 1) % 12) {
                times += m == month ? 1 : 0;
                if (m == d[5]) {
                    break;
                }
            }
            return times * d[2] * (d[0] == 2 && month >= 5 && month <= 8 ? 2 : 1);
        }

        int gain(int[] d, int got, int wanted) {
            int lacks = wanted - got;
            if (d[0] == 4) {
                int sum = 0;
                for (int k = 0; k < got; k++) {
                    sum += d[3] >> Math.min(k, 30);
                }
                return sum;
            }
            int g = got * d[3];
            if (d[0] == 1 || d[0] == 3) {
                g -= lacks * d[3];
            }
            if (d[0] == 3 && lacks == 0 && wanted != 0) {
                g += d[3] / 2;
            }
            return g;
        }

        /** What each demand gets, by its number. */
        int[] got(int month, int x) {
            int[] got = new int[demands.size()];
            int rest = x;
            for (int rank = 0; rank <= 9; rank++) {
                for (int k = 0; k < demands.size(); k++) {
                    if (demands.get(k) != null && demands.get(k)[1] == rank) {
                        got[k] = Math.min(rest, wanted(demands.get(k), month));
                        rest -= got[k];
                    }
                }
            }
            return got;
        }

        /** DRIED, THERE, RELEASED, SPILLED, next STORE, YIELD. */
        int[] step(int month, int s, int q, int r) {
            int dried = s * dries[month] / 10;
            int there = s - dried + q;
            int released = Math.min(r, there);
            int rest = there - released;
            int top = Math.max(0, cap - flood[month]);
            int spilled = Math.max(0, rest - top);
            int yield = -harm * spilled;
            int[] got = got(month, released);
            for (int k = 0; k < got.length; k++) {
                if (demands.get(k) != null) {
                    yield += gain(demands.get(k), got[k], wanted(demands.get(k), month));
                }
            }
            return new int[] {dried, there, released, spilled, rest - spilled, yield};
        }

        float would(int m, int s, int i, int r) {
            int[] step = step(m, s, inflow[m][i], r);
            float sum = 0f;
            for (int j = 0; j < 3; j++) {
                sum = sum + part[i][j] * best(m + 1, step[4], j);
            }
            return step[5] + sum / (part[i][0] + part[i][1] + part[i][2]);
        }

        float best(int m, int s, int i) {
            if (memo == null) {
                memo = new Float[13][14][3];
            }
            if (memo[m][s][i] == null) {
                float best = m == horizon ? left * s : would(m, s, i, release(m, s, i));
                memo[m][s][i] = best;
            }
            return memo[m][s][i];
        }

        int release(int m, int s, int i) {
            int least = 0;
            for (int r = 1; r <= 20; r++) {
                if (would(m, s, i, r) > would(m, s, i, least)) {
                    least = r;
                }
            }
            return least;
        }

        int state(int m, int units) {
            int[] off = new int[3];
            for (int i = 0; i < 3; i++) {
                off[i] = Math.abs(inflow[m][i] - units);
            }
            int min = Math.min(off[0], Math.min(off[1], off[2]));
            return off[0] == min ? 0 : off[1] == min ? 1 : 2;
        }

        boolean isAhead(int m, int s) {
            return m >= 0 && m < horizon && s >= 0 && s <= cap;
        }
    }

    private World w = new World();
    private List<int[]> seen = new ArrayList<>();
    private List<int[]> plan = new ArrayList<>();
    private List<int[]> book = new ArrayList<>();
    private Object[] image = null;
    private final List<List<Integer>> records = new ArrayList<>();
    private String text = "";
    private final Object[] tapes = new Object[6];

    public PlainModel() {
        for (int k = 0; k < 4; k++) {
            records.add(new ArrayList<>());
        }
    }

    private static boolean in(int v, int least, int most) {
        return least <= v && v <= most;
    }

    private static long bits(float f) {
        return Float.floatToIntBits(f);
    }

    private boolean hasDemand(int d) {
        return in(d, 0, w.demands.size() - 1);
    }

    public int put(int what, int v) {
        if (!in(what, 0, 3)) {
            return NONE;
        }
        int[] least = {1, 1, 0, 0};
        int[] most = {12, 12, 9, 99};
        if (!in(v, least[what], most[what])) {
            return BAD;
        }
        int was = told(what);
        w = with(what, v);
        return was;
    }

    private World with(int what, int v) {
        World t = w.twin();
        t.cap = what == 0 ? v : t.cap;
        t.horizon = what == 1 ? v : t.horizon;
        t.harm = what == 2 ? v : t.harm;
        t.left = what == 3 ? v : t.left;
        return t;
    }

    private int change(int[] row, int at, int v) {
        w.memo = null;
        int was = row[at];
        row[at] = v;
        return was;
    }

    public int inflow(int month, int state, int v) {
        if (!in(month, 0, 11) || !in(state, 0, 2)) {
            return NONE;
        }
        return in(v, 0, 9) ? change(w.inflow[month], state, v) : BAD;
    }

    public int part(int from, int to, int v) {
        if (!in(from, 0, 2) || !in(to, 0, 2)) {
            return NONE;
        }
        int[] row = w.part[from].clone();
        row[to] = v;
        return in(v, 0, 9) && !Arrays.equals(row, new int[3]) ? change(w.part[from], to, v) : BAD;
    }

    public int month(int month, int what, int v) {
        if (!in(month, 0, 11) || !in(what, 0, 1)) {
            return NONE;
        }
        return in(v, 0, 9) ? change(what == 0 ? w.dries : w.flood, month, v) : BAD;
    }

    public int demand(int kind, int rank, int wants, int worth, int from, int to) {
        if (!in(kind, 0, 4) || !in(rank, 0, 9) || !in(wants, 1, 9) || !in(worth, 0, 99) || !in(from, 0, 11)
            || !in(to, 0, 11)) {
            return BAD;
        }
        if (w.demands.size() == 6) {
            return FULL;
        }
        w.memo = null;
        w.demands.add(new int[] {kind, rank, wants, worth, from, to});
        return w.demands.size() - 1;
    }

    public int renew(int demand, int what, int v) {
        if (!hasDemand(demand) || !in(what, 0, 2)) {
            return NONE;
        }
        boolean fits = what == 0 ? in(v, 0, 9) : what == 1 ? in(v, 1, 9) : in(v, 0, 99);
        return fits ? change(w.demands.get(demand), what + 1, v) : BAD;
    }

    public int drop(int demand) {
        if (!hasDemand(demand)) {
            return NONE;
        }
        w.memo = null;
        w.demands.remove(demand);
        return w.demands.size();
    }

    public int feed(int sign) {
        if (!in(sign, 0, 127)) {
            return BAD;
        }
        if (text.length() == 100) {
            return FULL;
        }
        text += (char) sign;
        return text.length();
    }

    public int read() {
        String t = text;
        text = "";
        for (int k = 1; k <= t.length(); k++) {
            Matcher m = TEXT.matcher(t.substring(0, k));
            if (!m.matches() && !m.hitEnd()) {
                return -10 - (k - 1);
            }
        }
        if (!TEXT.matcher(t).matches()) {
            return -10 - t.length();
        }
        int done = 0;
        for (String clause : t.split(";")) {
            done += isDone(clause) ? 1 : 0;
        }
        return done;
    }

    private boolean isDone(String clause) {
        String[] bits = clause.substring(1).split("\\.");
        int[] digits = clause.chars().map(c -> c - '0').toArray();
        int first = clause.charAt(0) == 'p' || clause.charAt(0) == 'd' ? 0 : Integer.parseInt(bits[0]);
        switch (clause.charAt(0)) {
            case 'd':
                return demand(digits[1], digits[2], digits[3], Integer.parseInt(bits[0].substring(3)),
                    Integer.parseInt(bits[1]), Integer.parseInt(bits[2])) >= 0;
            case 'q':
                if (first > 11) {
                    return false;
                }
                for (int i = 0; i < 3; i++) {
                    change(w.inflow[first], i, bits[1].charAt(i) - '0');
                }
                return true;
            case 'p':
                if (digits[1] > 2 || digits[2] + digits[3] + digits[4] == 0) {
                    return false;
                }
                w.memo = null;
                w.part[digits[1]] = new int[] {digits[2], digits[3], digits[4]};
                return true;
            case 'e':
                return month(first, 0, Integer.parseInt(bits[1])) >= 0;
            case 'f':
                return month(first, 1, Integer.parseInt(bits[1])) >= 0;
            default:
                return put(0, first) >= 0;
        }
    }

    public int told(int what) {
        int[] all = {w.cap, w.horizon, w.harm, w.left, w.demands.size()};
        return in(what, 0, 4) ? all[what] : NONE;
    }

    public int monthOf(int month, int what) {
        if (!in(month, 0, 11) || !in(what, 0, 5)) {
            return NONE;
        }
        int[] all = {w.inflow[month][0], w.inflow[month][1], w.inflow[month][2], w.dries[month], w.flood[month],
            Math.max(0, w.cap - w.flood[month])};
        return all[what];
    }

    public int partOf(int from, int to) {
        if (!in(from, 0, 2) || !in(to, 0, 3)) {
            return NONE;
        }
        return to == 3 ? Arrays.stream(w.part[from]).sum() : w.part[from][to];
    }

    public int demandOf(int demand, int what) {
        if (!hasDemand(demand) || !in(what, 0, 6)) {
            return NONE;
        }
        if (what < 6) {
            return w.demands.get(demand)[what];
        }
        List<Integer> order = new ArrayList<>();
        for (int k = 0; k < w.demands.size(); k++) {
            order.add(k);
        }
        order.sort((a, b) -> w.demands.get(a)[1] - w.demands.get(b)[1]);
        return order.indexOf(demand);
    }

    public int taken(int demand, int k) {
        if (!hasDemand(demand)) {
            return NONE;
        }
        if (!in(k, 0, 4)) {
            return BAD;
        }
        int kind = w.demands.get(demand)[0];
        return k == kind || k == 0 || (k == 1 && kind == 3) ? kind : -12;
    }

    public int wanted(int demand, int month) {
        return hasDemand(demand) && in(month, 0, 11) ? w.wanted(w.demands.get(demand), month) : NONE;
    }

    public long served(int demand, int month, int x, int what) {
        if (!hasDemand(demand) || !in(month, 0, 11) || x < 0 || !in(what, 0, 1)) {
            return NO;
        }
        int got = w.got(month, x)[demand];
        return what == 0 ? got : w.gain(w.demands.get(demand), got, wanted(demand, month));
    }

    public long step(int month, int store, int q, int r, int what) {
        if (!in(month, 0, 11) || !in(store, 0, w.cap) || !in(q, 0, 99) || r < 0 || !in(what, 0, 5)) {
            return NO;
        }
        return w.step(month, store, q, r)[what];
    }

    public long best(int month, int store, int state) {
        return in(month, 0, w.horizon) && in(store, 0, w.cap) && in(state, 0, 2) ? bits(w.best(month, store, state))
            : NO;
    }

    public int release(int month, int store, int state) {
        return w.isAhead(month, store) && in(state, 0, 2) ? w.release(month, store, state) : NONE;
    }

    public long would(int month, int store, int state, int r) {
        return w.isAhead(month, store) && in(state, 0, 2) && in(r, 0, 20) ? bits(w.would(month, store, state, r)) : NO;
    }

    private float odds(int from, int to) {
        return (float) w.part[from][to] / (float) partOf(from, 3);
    }

    public long after(int n, int from, int to) {
        if (!in(from, 0, 2) || !in(to, 0, 2) || !in(n, 0, 12)) {
            return NO;
        }
        return bits(oddsAfter(n, from)[to]);
    }

    private float[] oddsAfter(int n, int from) {
        float[] is = new float[3];
        if (n == 0) {
            is[from] = 1f;
            return is;
        }
        float[] was = oddsAfter(n - 1, from);
        for (int j = 0; j < 3; j++) {
            for (int k = 0; k < 3; k++) {
                is[j] = is[j] + was[k] * odds(k, j);
            }
        }
        return is;
    }

    /** All ways of n months by number, the first state being the highest digit. */
    private int[] likeliest(int from, int n) {
        int[] best = null;
        int all = (int) Math.pow(3, n);
        for (int code = 0; code < all; code++) {
            int[] way = new int[n];
            for (int k = n - 1, c = code; k >= 0; k--, c /= 3) {
                way[k] = c % 3;
            }
            if (best == null || chanceOf(from, way) > chanceOf(from, best)) {
                best = way;
            }
        }
        return best;
    }

    private float chanceOf(int from, int[] way) {
        float chance = 1f;
        int at = from;
        for (int next : way) {
            chance = chance * odds(at, next);
            at = next;
        }
        return chance;
    }

    public int way(int from, int n, int k) {
        return in(from, 0, 2) && in(n, 1, 8) && in(k, 0, n - 1) ? likeliest(from, n)[k] : NONE;
    }

    public long chance(int from, int n) {
        return in(from, 0, 2) && in(n, 1, 8) ? bits(chanceOf(from, likeliest(from, n))) : NO;
    }

    public long worth(int what, int k, int store, int state) {
        if (!in(what, 0, 2) || (what == 0 && !hasDemand(k)) || (what == 2 && !in(k, 0, 11)) || !in(store, 0, w.cap)
            || !in(state, 0, 2)) {
            return NO;
        }
        World t = w.twin();
        if (what == 0) {
            t.demands.remove(k);
        } else if (what == 1) {
            t.cap += 1;
        } else {
            t.flood[k] += 1;
        }
        float is = w.best(0, store, state);
        float other = t.best(0, store, state);
        return bits(what == 1 ? other - is : is - other);
    }

    public int record(int record, int v) {
        if (!in(record, 0, 3)) {
            return NONE;
        }
        if (!in(v, -1, 9)) {
            return BAD;
        }
        if (v == -1) {
            records.get(record).clear();
        } else if (records.get(record).size() == 24) {
            return FULL;
        } else {
            records.get(record).add(v);
        }
        return records.get(record).size();
    }

    private boolean canReplay(int record, int store, int by) {
        return in(record, 0, 3) && in(store, 0, w.cap) && in(by, 0, 20);
    }

    /** Of each month its step; ahead of them one in which the store comes about. */
    private List<int[]> steps(int record, int store, int by, int n) {
        List<int[]> steps = new ArrayList<>();
        steps.add(new int[] {0, 0, 0, 0, store, 0});
        for (int k = 0; k < n; k++) {
            int m = k % 12;
            int s = steps.get(k)[4];
            int q = records.get(record).get(k);
            int r = by > 0 ? by : m < w.horizon ? w.release(m, s, w.state(m, q)) : 0;
            steps.add(w.step(m, s, q, r));
        }
        return steps;
    }

    public long replay(int record, int store, int by, int n, int what) {
        if (!canReplay(record, store, by) || !in(n, 0, records.get(record).size()) || !in(what, 0, 5)) {
            return NO;
        }
        List<int[]> steps = steps(record, store, by, n);
        if (what == 0) {
            return steps.get(n)[4];
        }
        if (what == 5) {
            return steps.stream().mapToInt(s -> s[4]).min().getAsInt();
        }
        int at = new int[] {0, 5, 3, 0, 2}[what];
        return steps.stream().mapToInt(s -> s[at]).sum();
    }

    public long sure(int record, int store, int by, int demand, int part) {
        if (!canReplay(record, store, by) || !hasDemand(demand) || !in(part, 0, 1)) {
            return NO;
        }
        List<int[]> steps = steps(record, store, by, records.get(record).size());
        int above = 0;
        int below = 0;
        for (int k = 1; k < steps.size(); k++) {
            int m = (k - 1) % 12;
            if (wanted(demand, m) > 0) {
                below++;
                above += w.got(m, steps.get(k)[2])[demand] == wanted(demand, m) ? 1 : 0;
            }
        }
        if (below == 0) {
            return NO;
        }
        int gcd = java.math.BigInteger.valueOf(above).gcd(java.math.BigInteger.valueOf(below)).intValue();
        return (part == 0 ? above : below) / gcd;
    }

    public int learn(int record) {
        if (!in(record, 0, 3)) {
            return NONE;
        }
        List<Integer> row = records.get(record);
        if (row.size() < 2) {
            return STATE;
        }
        int[][] many = new int[3][3];
        for (int k = 1; k < row.size(); k++) {
            many[w.state((k - 1) % 12, row.get(k - 1))][w.state(k % 12, row.get(k))]++;
        }
        w.memo = null;
        for (int i = 0; i < 3; i++) {
            for (int j = 0; j < 3; j++) {
                w.part[i][j] = Math.min(9, 1 + many[i][j]);
            }
        }
        return row.size();
    }

    private static int add(List<int[]> rows, int most, int... row) {
        if (rows.size() == most) {
            return FULL;
        }
        rows.add(row);
        return rows.size();
    }

    public int see(int month, int store, int state, int r) {
        if (month == -1) {
            seen.clear();
            return 0;
        }
        if (!w.isAhead(month, store) || !in(state, 0, 2)) {
            return NONE;
        }
        return in(r, 0, 20) ? add(seen, 5, month, store, state, r) : BAD;
    }

    public int fits(int what) {
        if (!in(what, 0, 1)) {
            return NONE;
        }
        List<Integer> lefts = new ArrayList<>();
        for (int left = 0; left <= 20; left++) {
            World t = with(3, left);
            if (seen.stream().allMatch(s -> t.isAhead(s[0], s[1]) && t.release(s[0], s[1], s[2]) == s[3])) {
                lefts.add(left);
            }
        }
        return what == 0 ? lefts.size() : lefts.isEmpty() ? -5 : lefts.get(0);
    }

    public int plan(int what, int v) {
        if (what == -1) {
            plan.clear();
            return 0;
        }
        if (!in(what, 0, 3) || (what == 3 && !hasDemand(v))) {
            return NONE;
        }
        boolean fits = what == 0 ? in(v, 1, 12) : what == 3 || in(v, 0, 9);
        return fits ? add(plan, 8, what, v) : BAD;
    }

    public long ends(int store, int state) {
        if (!in(store, 0, w.cap) || !in(state, 0, 2)) {
            return NO;
        }
        World t = w.twin();
        for (int[] row : plan) {
            if (row[0] == 0) {
                t.cap = row[1];
            } else if (row[0] == 1) {
                Arrays.fill(t.dries, row[1]);
            } else if (row[0] == 2) {
                t.harm = row[1];
            } else if (row[1] < t.demands.size()) {
                t.demands.set(row[1], null);
            }
        }
        return bits(t.best(0, Math.min(store, t.cap), state));
    }

    public int book(int month, int store, int r) {
        if (month == -1) {
            book.clear();
            return 0;
        }
        if (!in(month, 0, 11)) {
            return NONE;
        }
        return in(store, 0, 12) && in(r, 0, 20) ? add(book, 8, month, store, r) : BAD;
    }

    public int looked() {
        for (int[] row : book) {
            if (release(row[0], row[1], 1) != row[2]) {
                return book.indexOf(row);
            }
        }
        return -5;
    }

    public int judge(int record, int store, int by, int tape, int i) {
        if (!canReplay(record, store, by) || !in(tape, 0, 5)) {
            return NONE;
        }
        if (tapes[tape] != null && !(tapes[tape] instanceof long[])) {
            return -12;
        }
        int looked = 0;
        for (int[] step : steps(record, store, by, records.get(record).size())) {
            long at = (long) i + looked;
            if (tapes[tape] == null || i < 0 || at >= ((long[]) tapes[tape]).length) {
                return 100 + looked;
            }
            if (((long[]) tapes[tape])[(int) at] != step[4]) {
                return looked;
            }
            looked++;
        }
        return -5;
    }

    public int image() {
        image = new Object[] {w.twin(), new ArrayList<>(seen), new ArrayList<>(plan), new ArrayList<>(book)};
        return w.demands.size();
    }

    @SuppressWarnings("unchecked")
    public int undo() {
        if (image == null) {
            return STATE;
        }
        w = ((World) image[0]).twin();
        seen = new ArrayList<>((List<int[]>) image[1]);
        plan = new ArrayList<>((List<int[]>) image[2]);
        book = new ArrayList<>((List<int[]>) image[3]);
        return w.demands.size();
    }

    public int count(int what) {
        if (!in(what, 0, 8)) {
            return BAD;
        }
        int[] all = {w.demands.size(), seen.size(), plan.size(), book.size(), text.length(), records.get(0).size(),
            records.get(1).size(), records.get(2).size(), records.get(3).size()};
        return all[what];
    }

    public int tape(int tape, int sort, int n) {
        if (!in(tape, 0, 5)) {
            return NONE;
        }
        if (sort == -1) {
            tapes[tape] = null;
            return 1;
        }
        if (!in(sort, 0, 4) || n > 60) {
            return BAD;
        }
        if (n < 0) {
            return -14;
        }
        Object[] rows = {new byte[n], new short[n], new int[n], new long[n], new boolean[n]};
        tapes[tape] = rows[sort];
        return 1;
    }

    private static int length(Object row) {
        return java.lang.reflect.Array.getLength(row);
    }

    public int item(int tape, int i, long v) {
        if (!in(tape, 0, 5)) {
            return NONE;
        }
        if (tapes[tape] == null) {
            return -11;
        }
        if (!in(i, 0, length(tapes[tape]) - 1)) {
            return -13;
        }
        if (tapes[tape] instanceof byte[]) {
            ((byte[]) tapes[tape])[i] = (byte) v;
        } else if (tapes[tape] instanceof short[]) {
            ((short[]) tapes[tape])[i] = (short) v;
        } else if (tapes[tape] instanceof int[]) {
            ((int[]) tapes[tape])[i] = (int) v;
        } else if (tapes[tape] instanceof long[]) {
            ((long[]) tapes[tape])[i] = v;
        } else {
            ((boolean[]) tapes[tape])[i] = v != 0;
        }
        return 1;
    }

    public long peek(int tape, int i) {
        if (!in(tape, 0, 5) || tapes[tape] == null || !in(i, 0, length(tapes[tape]) - 1)) {
            return NO;
        }
        if (tapes[tape] instanceof boolean[]) {
            return ((boolean[]) tapes[tape])[i] ? 1 : 0;
        }
        return java.lang.reflect.Array.getLong(tapes[tape], i);
    }

    public int shift(int tape, int i, int other, int j, int n) {
        if (!in(tape, 0, 5) || !in(other, 0, 5)) {
            return NONE;
        }
        if (tapes[tape] == null || tapes[other] == null) {
            return -11;
        }
        try {
            System.arraycopy(tapes[tape], i, tapes[other], j, n);
        } catch (ArrayStoreException e) {
            return -12;
        } catch (IndexOutOfBoundsException e) {
            return -13;
        }
        return n;
    }
}
