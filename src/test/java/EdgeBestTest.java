/** The bounds of promises 19 to 25, and of the Terms BEST, RELEASE, MEAN, AFTER, THE WAY, CHANCE, WORTH. */
public final class EdgeBestTest {
    private static final int NONE = ReservoirMind.NONE;
    private static final long NO = ReservoirMind.NO;
    private static final int MIN = Edge.MIN, MAX = Edge.MAX;
    private static final Edge.Scene NEW = Scenes.NEW, LIVED = Scenes.LIVED, FULL = Scenes.FULL;

    public static void main(String[] args) {
        promise19AtTheHorizon();
        promise19Refusals();
        promise19Negative();
        promise20LeastRelease();
        promise20Refusals();
        releasesUpToTwenty();
        monthGoesAsTold();
        meanInFloats();
        promise21();
        promise21Refusals();
        promise22();
        promise22Floats();
        promise22Refusals();
        promise23Ties();
        promise23LikeliestAsAWhole();
        promise23Refusals();
        promise24();
        promise25Demand();
        promise25Room();
        promise25Flood();
        promise25Refusals();
        promise25InFloats();
        Due.end("EdgeBestTest");
    }

    private static Edge.Scene sized(int cap, int horizon, int left) {
        return m -> {
            m.put(0, cap);
            m.put(1, horizon);
            m.put(3, left);
        };
    }

    private static void promise19AtTheHorizon() {
        for (int cap : new int[] {1, 8, 12}) {
            for (int horizon : new int[] {1, 6, 11, 12}) {
                for (int left : new int[] {0, 1, 99}) {
                    Mind m = Edge.made(sized(cap, horizon, left));
                    String place = "Promise 19, ==== 1 BEST, CAP " + cap + ", HORIZON " + horizon + ": ";
                    for (int state = 0; state < 3; state++) {
                        Due.is(place + "LEFT times s", m.best(horizon, 0, state), Due.bits(0f));
                        Due.is(place + "LEFT times s", m.best(horizon, 1, state), Due.bits(left));
                        Due.is(place + "LEFT times s", m.best(horizon, cap, state), Due.bits(left * cap));
                        Due.is(place + "no such STORE", m.best(horizon, cap + 1, state), NO);
                        Due.is(place + "no such STORE", m.best(0, cap + 1, state), NO);
                        Due.is(place + "no such STORE", m.best(horizon - 1, -1, state), NO);
                        Due.is(place + "no such MONTH", m.best(horizon + 1, 0, state), NO);
                        Due.is(place + "no such MONTH", m.best(-1, 0, state), NO);
                        Due.holds(place + "MONTH 0", m.best(0, cap, state) >= 0);
                        Due.holds(place + "the MONTH ahead of it", m.best(horizon - 1, cap, state) >= 0);
                        Due.is(place + "none is released at it", m.release(horizon, cap, state), NONE);
                        Due.is(place + "none would be at it", m.would(horizon, cap, state, 0), NO);
                        Due.holds(place + "ahead of it one is", m.release(horizon - 1, cap, state) >= 0);
                        Due.holds(place + "ahead of it one would be", m.would(horizon - 1, cap, state, 20) >= 0);
                        Due.is(place + "STATES 0 .. 2", m.best(horizon, cap, 3), NO);
                    }
                }
            }
        }
    }

    private static void promise19Refusals() {
        int[][] sizes = {{6, 8}, {4, 7}, {2, 12}};
        Edge.Scene[] scenes = {NEW, LIVED, FULL};
        for (int k = 0; k < 3; k++) {
            Edge.refuses("Promise 19: NO, MONTHS 0 .. HORIZON", scenes[k], NO, (m, v) -> m.best(v, 0, 0),
                Edge.outside(0, sizes[k][0]));
            Edge.refuses("Promise 19: NO, a STORE 0 .. CAP", scenes[k], NO, (m, v) -> m.best(0, v, 0),
                Edge.outside(0, sizes[k][1]));
            Edge.refuses("Promise 19: NO, a STORE 0 .. CAP", scenes[k], NO, (m, v) -> m.best(2, v, 2),
                Edge.outside(0, sizes[k][1]));
            Edge.refuses("Promise 19: NO, STATES 0 .. 2", scenes[k], NO, (m, v) -> m.best(0, 0, v), Edge.outside(0, 2));
        }
        Edge.keeps("Promise 19: it is asked", NEW, m -> m.best(6, 8, 2), Due.bits(24f));
        Edge.keeps("Promise 19: it is asked", LIVED, m -> m.best(4, 7, 2), Due.bits(35f));
    }

    /** A FIRM one of which 9 are lacked: what is answered is an int's bits, below 0. */
    private static void promise19Negative() {
        Mind m = new Mind();
        m.put(1, 1);
        m.put(3, 0);
        m.inflow(0, 0, 0);
        m.demand(1, 0, 9, 1, 0, 0);
        Due.is("Answers: floats as their bits (as an int's)", m.best(0, 0, 0), 0xC1100000);
        Due.is("Answers: floats as their bits (as an int's)", m.would(0, 0, 0, 20), Due.bits(-9f));
        Due.is("Answers: bits of what is above 0", m.best(0, 5, 0), Due.bits(1f));
        Due.is("Answers: bits of 0", m.best(1, 5, 0), 0);
        Due.is("Answers: WORTH below 0", m.worth(0, 0, 0, 0), Due.bits(-9f));
    }

    /** One month, LEFT 10: a PLAIN one of WORTH 9 or 10 isn't served, since what is kept is worth 10 a unit. */
    private static void promise20LeastRelease() {
        int[] dues = {0, 0, 3};
        for (int k = 0; k < 3; k++) {
            Mind m = Edge.made(sized(12, 1, 10));
            m.demand(0, 0, 3, 9 + k, 0, 0);
            Due.is("Promise 20, ==== 1 RELEASE: the least r by which it is BEST: WORTH " + (9 + k), m.release(0, 5, 1),
                dues[k]);
            Due.is("Promise 19, ==== 1 BEST: the greatest of these", m.best(0, 5, 1),
                Due.bits(70f + 3 * Math.max(0, k - 1)));
        }
        Mind m = Edge.made(sized(12, 1, 0));
        Due.is("Promise 20: of all alike the least", m.release(0, 6, 2), 0);
        m.demand(0, 0, 9, 1, 0, 0);
        for (int store = 0; store <= 12; store++) {
            Due.is("Promise 20: no more than is THERE, no more than is wanted", m.release(0, store, 0),
                Math.min(9, store + 1));
        }
        m.inflow(0, 0, 0);
        Due.is("Promise 20: nothing is THERE", m.release(0, 0, 0), 0);
        Due.is("Promise 19: nothing is THERE", m.best(0, 0, 0), 0);
    }

    private static void promise20Refusals() {
        int[][] sizes = {{6, 8}, {4, 7}, {2, 12}};
        Edge.Scene[] scenes = {NEW, LIVED, FULL};
        for (int k = 0; k < 3; k++) {
            Edge.refuses("Promise 20: NONE, MONTHS ahead of the HORIZON", scenes[k], NONE, (m, v) -> m.release(v, 0, 0),
                Edge.outside(0, sizes[k][0] - 1));
            Edge.refuses("Promise 20: NONE, a STORE 0 .. CAP", scenes[k], NONE, (m, v) -> m.release(0, v, 0),
                Edge.outside(0, sizes[k][1]));
            Edge.refuses("Promise 20: NONE, STATES 0 .. 2", scenes[k], NONE, (m, v) -> m.release(0, 0, v),
                Edge.outside(0, 2));
        }
        Edge.keeps("Promise 20: it is asked", NEW, m -> m.release(5, 8, 2), 4);
        Edge.keeps("Promise 20: it is asked", NEW, m -> m.release(0, 8, 0), 1);
    }

    /** 12 and 9 are 21 units; all but the last 0, 1, 2 of them are worth something. */
    private static void releasesUpToTwenty() {
        int[][] wants = {{9, 9, 1}, {9, 9, 2}, {9, 9, 3}};
        for (int k = 0; k < 3; k++) {
            Mind m = Edge.made(sized(12, 1, 0));
            m.put(2, 0);
            m.inflow(0, 2, 9);
            for (int want : wants[k]) {
                m.demand(0, 0, want, 10, 0, 0);
            }
            int due = Math.min(20, 19 + k);
            Due.is("==== 1 for each release r from 0 to 20: " + (19 + k) + " are wanted", m.release(0, 12, 2), due);
            Due.is("==== 1 for each release r from 0 to 20: BEST", m.best(0, 12, 2), Due.bits(10f * due));
            Due.is("Promise 21: a release of 20", m.would(0, 12, 2, 20), Due.bits(10f * due));
            Due.is("Promise 21: a release of 19", m.would(0, 12, 2, 19), Due.bits(190f));
        }
        Mind m = Edge.made(sized(12, 1, 0));
        m.put(2, 9);
        m.inflow(0, 2, 9);
        m.month(0, 1, 9);
        m.put(0, 9);
        Due.is("==== 1 TOP 0: all 18 are let go, since what is SPILLED does HARM", m.release(0, 9, 2), 18);
        m.put(0, 12);
        Due.is("==== 1 TOP 3: all but 3 of 21", m.release(0, 12, 2), 18);
        Due.is("==== 1 TOP 3: one less is SPILLED", m.would(0, 12, 2, 17), Due.bits(-9f));
        Due.is("==== 1 TOP 3: none is SPILLED", m.would(0, 12, 2, 18), Due.bits(0f));
    }

    /** What a month is in BEST it is by "step": DRIES, FLOOD, the flow that is INFLOW, the YIELD. */
    private static void monthGoesAsTold() {
        int[] flows = {1, 2, 4};
        for (int store = 0; store <= 10; store += 5) {
            Mind m = Edge.made(sized(10, 1, 7));
            m.demand(3, 1, 2, 9, 0, 0);
            m.demand(4, 0, 3, 9, 0, 0);
            m.month(0, 0, 3);
            m.month(0, 1, 4);
            for (int state = 0; state < 3; state++) {
                float greatest = 0f;
                int least = -1;
                for (int r = 0; r <= 20; r++) {
                    float due = m.step(0, store, flows[state], r, 5) + 7f * m.step(0, store, flows[state], r, 4);
                    Due.is("Promise 21: its YIELD, and LEFT times the next STORE", m.would(0, store, state, r),
                        Due.bits(due));
                    if (least < 0 || due > greatest) {
                        greatest = due;
                        least = r;
                    }
                }
                Due.is("Promise 19: the greatest of these", m.best(0, store, state), Due.bits(greatest));
                Due.is("Promise 20: the least by which it is that", m.release(0, store, state), least);
            }
        }
    }

    private static float mean(float[] parts, float dry, float mean, float wet) {
        float sum = 0f;
        sum = sum + parts[0] * dry;
        sum = sum + parts[1] * mean;
        sum = sum + parts[2] * wet;
        return sum / (parts[0] + parts[1] + parts[2]);
    }

    /**
     * Without DEMANDS and spills all is kept. These PARTS are such that another order of the sum, PARTS divided one by
     * one, or finer numbers than floats would each answer otherwise.
     */
    private static void meanInFloats() {
        float[][][] parts = {{{4, 6, 5}, {6, 2, 4}, {7, 4, 1}}, {{9, 7, 3}, {2, 3, 8}, {4, 2, 4}},
            {{9, 7, 3}, {8, 2, 8}, {8, 4, 5}}};
        float[] dues = {5.434444f, 5.2272315f, 4.949632f};
        int[] q = {1, 2, 4};
        for (int k = 0; k < 3; k++) {
            float[][] p = parts[k];
            Mind m = Edge.made(sized(12, 3, 1));
            for (int i = 0; i < 9; i++) {
                m.part(i / 3, i % 3, (int) p[i / 3][i % 3]);
            }
            float[] first = new float[3];
            for (int i = 0; i < 3; i++) {
                float[] behind = new float[3];
                for (int j = 0; j < 3; j++) {
                    behind[j] = mean(p[j], 1 + q[i] + q[j], 1 + q[i] + q[j], 1 + q[i] + q[j]);
                }
                Due.is("==== 1 MEAN of the last MONTH", m.best(2, 1 + q[i], i), Due.bits(1 + q[i] + q[i]));
                Due.is("==== 1 MEAN in floats", m.best(1, 1, i), Due.bits(mean(p[i], behind[0], behind[1], behind[2])));
                first[i] = m.release(0, 0, i);
            }
            Due.is("==== 1 MEAN: for j 0, 1, 2 by turn; that by all three", m.best(0, 0, 0), Due.bits(dues[k]));
            Due.is("Promise 21: so does a release of 0", m.would(0, 0, 0, 0), Due.bits(dues[k]));
            Due.holds("Promise 20: none is let go", first[0] == 0 && first[1] == 0 && first[2] == 0);
        }
    }

    /** MONTH 5 of 6, a STORE of 8 and 4 more, CAP 8, HARM 2, LEFT 3. */
    private static void promise21() {
        for (int r = 0; r <= 20; r++) {
            int by = r;
            int rest = Math.max(0, 12 - r);
            float due = 3f * Math.min(8, rest) - 2f * Math.max(0, rest - 8);
            Edge.keeps("Promise 21: r (0 .. 20): " + r, NEW, m -> m.would(5, 8, 2, by), Due.bits(due));
        }
    }

    private static void promise21Refusals() {
        int[][] sizes = {{6, 8}, {4, 7}, {2, 12}};
        Edge.Scene[] scenes = {NEW, LIVED, FULL};
        for (int k = 0; k < 3; k++) {
            Edge.refuses("Promise 21: NO, MONTHS ahead of the HORIZON", scenes[k], NO, (m, v) -> m.would(v, 0, 0, 5),
                Edge.outside(0, sizes[k][0] - 1));
            Edge.refuses("Promise 21: NO, a STORE 0 .. CAP", scenes[k], NO, (m, v) -> m.would(0, v, 0, 5),
                Edge.outside(0, sizes[k][1]));
            Edge.refuses("Promise 21: NO, STATES 0 .. 2", scenes[k], NO, (m, v) -> m.would(0, 0, v, 5),
                Edge.outside(0, 2));
            Edge.refuses("Promise 21: NO, r 0 .. 20", scenes[k], NO, (m, v) -> m.would(0, 0, 0, v),
                Edge.outside(0, 20));
        }
    }

    private static void promise22() {
        for (int from = 0; from < 3; from++) {
            for (int to = 0; to < 3; to++) {
                int i = from;
                int j = to;
                Edge.keeps("Promise 22, ==== 2 AFTER 0 MONTHS: 1 for i, 0 for others", LIVED, m -> m.after(0, i, j),
                    Due.bits(i == j ? 1f : 0f));
                float part = Edge.told(LIVED, "partOf(" + i + ", " + j + ")");
                float all = Edge.told(LIVED, "partOf(" + i + ", 3)");
                Edge.keeps("Promise 22, ==== 2 AFTER 1 MONTH: PART by all PARTS from i", LIVED, m -> m.after(1, i, j),
                    Due.bits(part / all));
            }
        }
        Mind m = new Mind();
        for (int k = 0; k < 9; k++) {
            m.part(k / 3, k % 3, k % 3 == (k / 3 + 1) % 3 ? 5 : 0);
        }
        m.part(0, 0, 0);
        m.part(2, 2, 0);
        for (int n = 0; n <= 12; n++) {
            for (int j = 0; j < 3; j++) {
                Due.is("Promise 22: each STATE leads to the next alone: after " + n, m.after(n, 1, j),
                    Due.bits((1 + n) % 3 == j ? 1f : 0f));
            }
        }
        Due.is("Promise 22: n (0 .. 12)", m.after(13, 1, 2), NO);
    }

    /** PARTS such that another order, another end, PARTS divided later, finer numbers would each answer otherwise. */
    private static void promise22Floats() {
        int[][] parts = {{7, 5, 7, 1, 7, 1, 5, 5, 6}, {9, 7, 6, 4, 3, 1, 2, 6, 3}, {3, 1, 9, 9, 5, 6, 9, 8, 4}};
        float[] dues = {0.49258953f, 0.39211005f, 0.2246511f};
        for (int k = 0; k < 3; k++) {
            Mind m = new Mind();
            for (int i = 0; i < 9; i++) {
                m.part(i / 3, i % 3, parts[k][i]);
            }
            Due.is("Promise 22, ==== 2 AFTER 3 MONTHS in floats, for k 0, 1, 2 by turn", m.after(3, 0, 1),
                Due.bits(dues[k]));
            float[] is = {1f, 0f, 0f};
            for (int n = 1; n <= 12; n++) {
                float[] was = is.clone();
                for (int j = 0; j < 3; j++) {
                    is[j] = 0f;
                    for (int i = 0; i < 3; i++) {
                        int all = parts[k][3 * i] + parts[k][3 * i + 1] + parts[k][3 * i + 2];
                        is[j] = is[j] + was[i] * ((float) parts[k][3 * i + j] / (float) all);
                    }
                    Due.is("Promise 22, ==== 2 AFTER " + n, m.after(n, 0, j), Due.bits(is[j]));
                }
            }
        }
    }

    private static void promise22Refusals() {
        for (int k = 0; k < 3; k++) {
            int state = k;
            Edge.refuses("Promise 22: NO, n 0 .. 12", LIVED, NO, (m, n) -> m.after(n, state, state),
                Edge.outside(0, 12));
        }
        Edge.refuses("Promise 22: NO, STATES 0 .. 2", LIVED, NO, (m, i) -> m.after(2, i, 0), Edge.outside(0, 2));
        Edge.refuses("Promise 22: NO, STATES 0 .. 2", LIVED, NO, (m, j) -> m.after(2, 0, j), Edge.outside(0, 2));
        Edge.refuses("Promise 22: NO, STATES 0 .. 2", LIVED, NO, (m, j) -> m.after(0, 0, j), Edge.outside(0, 2));
    }

    /** PARTS of which zeroes are "." and all from a STATE are alike if not 0. */
    private static Mind linked(String links) {
        Mind m = new Mind();
        for (int k = 0; k < 9; k++) {
            m.part(k / 3, k % 3, links.charAt(k) == '.' ? 0 : links.charAt(k) - '0');
        }
        return m;
    }

    private static void wayIs(String place, Mind m, int from, String way, float chance) {
        for (int k = 0; k < way.length(); k++) {
            Due.is(place + ": way " + way + " at " + k, m.way(from, way.length(), k), way.charAt(k) - '0');
        }
        Due.is(place + ": CHANCE of " + way, m.chance(from, way.length()), Due.bits(chance));
    }

    private static void promise23Ties() {
        String place = "Promise 23, ==== 2 THE WAY: of several that of which the first STATE is least, then the second";
        float third = 1f / 3f;
        wayIs(place, new Mind(), 2, "0", third);
        wayIs(place, new Mind(), 1, "00", third * third);
        wayIs(place, new Mind(), 0, "00000000", third * third * third * third * third * third * third * third);
        wayIs(place, linked(".11111111"), 0, "10", 0.5f * third);
        wayIs(place, linked("..1111111"), 0, "20", third);
        wayIs(place, linked(".11.11.11"), 2, "111", 0.5f * 0.5f * 0.5f);
        // both ways have a CHANCE of one half of one half: 0 0 and 1 1, 0 1 and 1 0
        wayIs(place, linked("11.11.11."), 0, "00", 0.25f);
        wayIs(place, linked("11.11.11."), 1, "00", 0.25f);
        wayIs(place, linked(".11..1.1."), 0, "12", 0.5f);
        wayIs(place, linked(".11..1.1."), 0, "121", 0.5f);
    }

    /** Not the likeliest step by step. */
    private static void promise23LikeliestAsAWhole() {
        String place = "Promise 23, ==== 2 THE WAY: STATES by which the CHANCE is greatest";
        wayIs(place, linked("235.1.111"), 0, "2", 5f / 10f);
        wayIs(place, linked("235.1.111"), 0, "11", 3f / 10f * 1f);
        wayIs(place, linked("235.1.111"), 0, "11111111", 3f / 10f);
        wayIs(place, linked("235.1.111"), 2, "11111111", 1f / 3f);
        // a later STATE is greater than an earlier one, and likelier by little
        wayIs(place, linked("889111111"), 0, "2", 9f / 25f);
        wayIs(place, linked("898111111"), 0, "1", 9f / 25f);
        wayIs(place, linked("998111111"), 0, "0", 9f / 26f);
        wayIs(place, linked("899111111"), 0, "1", 9f / 26f);
    }

    private static void promise23Refusals() {
        for (int n = 1; n <= 8; n++) {
            int months = n;
            Edge.refuses("Promise 23: NONE, k from 0, of " + n + " MONTHS", LIVED, NONE, (m, k) -> m.way(0, months, k),
                Edge.outside(0, n - 1));
            Mind m = Edge.made(LIVED);
            Due.holds("Promise 23: the first and the last", m.way(2, n, 0) == 1 && m.way(2, n, n - 1) >= 0);
        }
        for (int k : new int[] {0, 7, 8, -1}) {
            Edge.refuses("Promise 23: NONE, n 1 .. 8", LIVED, NONE, (m, n) -> m.way(0, n, k), Edge.outside(1, 8));
            Edge.refuses("Promise 23: NONE, STATES 0 .. 2", LIVED, NONE, (m, i) -> m.way(i, 8, k), Edge.outside(0, 2));
        }
        Edge.keeps("Promise 23: it is asked", LIVED, m -> m.way(0, 8, 7), 0);
    }

    private static void promise24() {
        Edge.refuses("Promise 24: NO, n 1 .. 8", LIVED, NO, (m, n) -> m.chance(0, n), Edge.outside(1, 8));
        Edge.refuses("Promise 24: NO, STATES 0 .. 2", LIVED, NO, (m, i) -> m.chance(i, 1), Edge.outside(0, 2));
        Edge.refuses("Promise 24: NO, STATES 0 .. 2", LIVED, NO, (m, i) -> m.chance(i, 8), Edge.outside(0, 2));
        Edge.keeps("Promise 24: it is asked", LIVED, m -> m.chance(2, 1), Due.bits(9f / 11f));
        // PARTS such that another order, a product divided at the end, or finer numbers would each answer otherwise
        wayIs("Promise 24, ==== 2 CHANCE: PARTS by all of them times each other in floats", linked("124612837"), 0,
            "2020",
            0.064499885f);
        wayIs("Promise 24, ==== 2 CHANCE: one behind the other", linked("6475.5364"), 0, "2121", 0.0438566f);
        wayIs("Promise 24, ==== 2 CHANCE: from 1 on", linked("986118212"), 0, "1212", 0.044521745f);
        Mind m = linked("919919919");
        float chance = 1f;
        for (int n = 1; n <= 8; n++) {
            chance = chance * (9f / 19f);
            Due.is("Promise 24: n (1 .. 8): " + n, m.chance(0, n), Due.bits(chance));
        }
    }

    private static void promise25Demand() {
        Edge.Scene scene = m -> {
            m.put(1, 1);
            m.demand(0, 1, 2, 10, 0, 0);
            m.demand(0, 0, 1, 7, 0, 0);
            m.demand(0, 0, 9, 99, 1, 11);
        };
        Edge.keeps("Promise 25, ==== 2 WORTH of a DEMAND: 2 of 10 rather than of 3", scene, m -> m.worth(0, 0, 6, 0),
            Due.bits(14f));
        Edge.keeps("Promise 25: the one behind it, 1 of 7 rather than of 3", scene, m -> m.worth(0, 1, 6, 0),
            Due.bits(4f));
        Edge.keeps("Promise 25: one that wants none ahead of the HORIZON", scene, m -> m.worth(0, 2, 6, 0),
            Due.bits(0f));
        Edge.keeps("Promise 25: 1 THERE, the other takes it: 7 rather than 10", scene, m -> m.worth(0, 1, 0, 0),
            Due.bits(-3f));
        Mind m = Edge.made(scene);
        m.put(1, 2);
        Due.holds("Promise 25: it wants some now", m.worth(0, 2, 6, 0) > 0);
    }

    private static void promise25Room() {
        for (int cap : new int[] {1, 8, 11, 12}) {
            Mind m = Edge.made(sized(cap, 1, 5));
            String place = "Promise 25, ==== 2 WORTH of ROOM: what it is with CAP 1 more (13, too): CAP " + cap;
            Due.is(place, m.worth(1, 0, cap, 0), Due.bits(5f));
            Due.is(place + ", room that isn't filled", m.worth(1, 0, cap - 1, 0), Due.bits(0f));
            for (int k : new int[] {-1, 6, 12, MIN, MAX}) {
                Due.is("Promise 25: k does not matter", m.worth(1, k, cap, 2), Due.bits(5f));
            }
            Due.is("Promise 25: CAP is as it was", m.told(0), cap);
            Due.is("Promise 25: a STORE 0 .. CAP", m.worth(1, 0, cap + 1, 2), NO);
        }
        Mind m = Edge.made(sized(12, 12, 5));
        m.month(11, 1, 9);
        Due.is("Promise 25: all that is kept through 12 MONTHS is what TOP of the last one is", m.worth(1, 0, 12, 2),
            Due.bits(5f));
        Edge.keeps("Promise 25: it is asked", FULL, f -> f.worth(1, MIN, 0, 0), Due.bits(0f));
    }

    private static void promise25Flood() {
        for (int flood : new int[] {0, 1, 8, 9}) {
            for (int month : new int[] {0, 11}) {
                Mind m = Edge.made(sized(12, month + 1, 5));
                m.month(month, 1, flood);
                String place = "Promise 25, ==== 2 WORTH of FLOOD: less what it is with 1 more (10, too): " + flood;
                Due.is(place, m.worth(2, month, 12, 2), Due.bits(5f));
                Due.is("Promise 25: a MONTH that isn't ahead of the HORIZON", m.worth(2, (month + 1) % 12, 12, 2),
                    Due.bits(0f));
                Due.is("Promise 25: FLOOD is as it was", m.monthOf(month, 4), flood);
            }
        }
        int[] floods = {6, 7, 8, 9};
        float[] dues = {5f, 0f, 0f, 0f};
        for (int k = 0; k < 4; k++) {
            Mind m = Edge.made(sized(7, 1, 5));
            m.month(0, 1, floods[k]);
            Due.is("Promise 25, ==== 1 TOP: 0 at least, with FLOOD 1 more", m.worth(2, 0, 7, 0), Due.bits(dues[k]));
        }
        Edge.keeps("Promise 25: it is asked", FULL, m -> m.worth(2, 11, 0, 0), Due.bits(0f));
    }

    private static void promise25Refusals() {
        Edge.refuses("Promise 25: NO, what 0 .. 2", LIVED, NO, (m, what) -> m.worth(what, 0, 0, 0), Edge.outside(0, 2));
        Edge.refuses("Promise 25: NO, a DEMAND, there are 4", LIVED, NO, (m, k) -> m.worth(0, k, 0, 0),
            Edge.outside(0, 3));
        Edge.refuses("Promise 25: NO, a DEMAND, there are 6", FULL, NO, (m, k) -> m.worth(0, k, 0, 0),
            Edge.outside(0, 5));
        Edge.refuses("Promise 25: NO, there are no DEMANDS", NEW, NO, (m, k) -> m.worth(0, k, 0, 0), 0, -1);
        Edge.refuses("Promise 25: NO, MONTHS 0 .. 11", LIVED, NO, (m, k) -> m.worth(2, k, 0, 0), Edge.outside(0, 11));
        for (int k = 0; k < 3; k++) {
            int what = k;
            Edge.refuses("Promise 25: NO, a STORE 0 .. CAP", LIVED, NO, (m, v) -> m.worth(what, 0, v, 0),
                Edge.outside(0, 7));
            Edge.refuses("Promise 25: NO, a STORE 0 .. CAP", FULL, NO, (m, v) -> m.worth(what, 0, v, 0),
                Edge.outside(0, 12));
            Edge.refuses("Promise 25: NO, STATES 0 .. 2", LIVED, NO, (m, v) -> m.worth(what, 0, 0, v),
                Edge.outside(0, 2));
        }
        Edge.keeps("Promise 25: the last DEMAND", FULL, m -> m.worth(0, 5, 0, 0), Edge.made(FULL).worth(0, 5, 0, 0));
    }

    /** Floats differ by what floats differ: two BESTs of two months, each by three. */
    private static void promise25InFloats() {
        Mind m = Edge.made(sized(12, 2, 1));
        m.demand(0, 0, 1, 3, 1, 1);
        float with = mean(new float[] {1, 1, 1}, 4f, 5f, 7f);
        float without = mean(new float[] {1, 1, 1}, 2f, 3f, 5f);
        Due.is("Promise 25: BEST", m.best(0, 0, 0), Due.bits(with));
        Due.is("Promise 25, ==== 2 all in floats", m.worth(0, 0, 0, 0), Due.bits(with - without));
        Due.holds("Promise 25: which isn't what it is in whole numbers", with - without != 2f);
    }
}
