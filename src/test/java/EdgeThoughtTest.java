/** The bounds of promises 30 to 35, and of the Terms SEEN, FITS, PLAN, ENDS, BOOK, LOOKED. */
public final class EdgeThoughtTest {
    private static final int NONE = ReservoirMind.NONE, BAD = ReservoirMind.BAD, FULL_UP = ReservoirMind.FULL;
    private static final long NO = ReservoirMind.NO;
    private static final int MIN = Edge.MIN, MAX = Edge.MAX;
    private static final int NOT_ANY = -5;
    private static final Edge.Scene NEW = Scenes.NEW, LIVED = Scenes.LIVED, FULL = Scenes.FULL;

    /** One MONTH, a PLAIN one of 2 units of WORTH 10: they are let go while LEFT is below 10. */
    private static final Edge.Scene ONE = m -> {
        m.put(1, 1);
        m.demand(0, 0, 2, 10, 0, 11);
    };

    public static void main(String[] args) {
        promise30();
        promise30Emptied();
        promise30Refusals();
        promise31Bounds();
        promise31AllSeen();
        promise31NotAheadAnyMore();
        promise31AboveCap();
        promise31Refusals();
        promise32();
        promise32Emptied();
        promise32Refusals();
        promise33EachRow();
        promise33Rows();
        promise33StoreAboveCap();
        promise33Demands();
        promise33Refusals();
        promise34();
        promise34Emptied();
        promise34Refusals();
        promise35();
        promise35NotAhead();
        promise35AboveCap();
        Due.end("EdgeThoughtTest");
    }

    private static void promise30() {
        int[][] inside = {{0, 0, 0, 0}, {5, 8, 2, 20}, {1, 1, 1, 1}, {4, 7, 1, 19}};
        for (int[] s : inside) {
            Edge.changes("Promise 30, ==== 2 SEEN: a MONTH ahead of the HORIZON, a STORE, a STATE, r (0 .. 20)", NEW,
                m -> m.see(s[0], s[1], s[2], s[3]), 1, "count(1)=1");
        }
        Edge.changes("Promise 30: how many there are", LIVED, m -> m.see(3, 7, 2, 20), 3, "count(1)=3");
        Mind m = new Mind();
        for (int k = 1; k <= 5; k++) {
            Due.is("Promise 30, ==== 2 5 rows at most", m.see(0, 0, 0, 0), k);
            Due.is("Promise 39: SEEN", m.count(1), k);
        }
        Due.is("Promise 30: FULL: 5", m.see(0, 0, 0, 0), FULL_UP);
        Due.is("Promise 30: none then", m.see(-1, 0, 0, 0), 0);
        Due.is("Promise 30: not FULL any more", m.see(0, 0, 0, 0), 1);
    }

    private static void promise30Emptied() {
        for (int v : new int[] {0, -1, 21, MIN, MAX}) {
            for (Edge.Scene scene : new Edge.Scene[] {NEW, LIVED, FULL}) {
                Edge.changes("Promise 30: month -1: none then, 0, whatever the others are: " + v, scene,
                    m -> m.see(-1, v, v, v), 0, "count(1)=0");
            }
        }
        Mind m = Edge.made(ONE);
        m.see(0, 8, 0, 20);
        Due.is("Promise 31: none fits", m.fits(0), 0);
        m.see(-1, 0, 0, 0);
        Due.is("Promise 31: all fit what isn't SEEN any more", m.fits(0), 21);
    }

    private static void promise30Refusals() {
        for (int r : new int[] {0, 20, 21, -1}) {
            Edge.refuses("Promise 30: NONE, MONTHS ahead of the HORIZON 4, ahead of BAD: r " + r, LIVED, NONE,
                (m, v) -> m.see(v, 0, 0, r), -2, 4, 5, 11, 12, MIN, MAX);
            Edge.refuses("Promise 30: NONE, a STORE 0 .. CAP, ahead of BAD: r " + r, LIVED, NONE,
                (m, v) -> m.see(0, v, 0, r),
                Edge.outside(0, 7));
            Edge.refuses("Promise 30: NONE, STATES 0 .. 2, ahead of BAD: r " + r, LIVED, NONE,
                (m, v) -> m.see(0, 0, v, r),
                Edge.outside(0, 2));
            Edge.refuses("Promise 30: NONE ahead of BAD and FULL: r " + r, FULL, NONE, (m, v) -> m.see(v, 0, 0, r), -2,
                2, 12);
            Edge.refuses("Promise 30: NONE ahead of BAD and FULL: r " + r, FULL, NONE, (m, v) -> m.see(0, v, 0, r), -1,
                13);
            Edge.refuses("Promise 30: NONE ahead of BAD and FULL: r " + r, FULL, NONE, (m, v) -> m.see(0, 0, v, r), -1,
                3);
        }
        Edge.refuses("Promise 30: BAD, r 0 .. 20", LIVED, BAD, (m, r) -> m.see(0, 0, 0, r), Edge.outside(0, 20));
        Edge.refuses("Promise 30: BAD ahead of FULL", FULL, BAD, (m, r) -> m.see(0, 0, 0, r), Edge.outside(0, 20));
        Edge.refuses("Promise 30: FULL: 5", FULL, FULL_UP, (m, r) -> m.see(1, 12, 2, r), 0, 20);
    }

    private static void fits(String place, Edge.Scene scene, int many, int least) {
        Edge.keeps("Promise 31, ==== 2 FITS: " + place + ": how many", scene, m -> m.fits(0), many);
        Edge.keeps("Promise 31, ==== 2 FITS: " + place + ": the least", scene, m -> m.fits(1), least);
    }

    /** Of one MONTH with a PLAIN one: 2 are let go while LEFT is below its WORTH, else none. */
    private static Edge.Scene seen(int worth, int r) {
        return m -> {
            m.put(1, 1);
            m.demand(0, 0, 2, worth, 0, 11);
            m.see(0, 5, 0, r);
        };
    }

    private static void promise31Bounds() {
        fits("nothing is SEEN", NEW, 21, 0);
        fits("LEFT 0 .. 20, as many as are below 0", seen(0, 2), 0, NOT_ANY);
        fits("LEFT 0 .. 20, as many as are below 1", seen(1, 2), 1, 0);
        fits("LEFT 0 .. 20, as many as are below 2", seen(2, 2), 2, 0);
        fits("LEFT 0 .. 20, as many as are below 20", seen(20, 2), 20, 0);
        fits("LEFT 0 .. 20, as many as are below 21", seen(21, 2), 21, 0);
        fits("LEFT 0 .. 20, as many as are below 22", seen(22, 2), 21, 0);
        fits("LEFT 0 .. 20, from 0 on", seen(0, 0), 21, 0);
        fits("LEFT 0 .. 20, from 1 on", seen(1, 0), 20, 1);
        fits("LEFT 0 .. 20, from 19 on", seen(19, 0), 2, 19);
        fits("LEFT 0 .. 20, from 20 on", seen(20, 0), 1, 20);
        fits("LEFT 0 .. 20, from 21 on: none", seen(21, 0), 0, NOT_ANY);
        fits("another release is never RELEASE", seen(10, 1), 0, NOT_ANY);
        for (int left : new int[] {0, 3, 20, 21, 99}) {
            fits("LEFT as it is does not matter: " + left, Edge.then(seen(20, 0), m -> m.put(3, left)), 1, 20);
        }
    }

    private static void promise31AllSeen() {
        Edge.Scene two = m -> {
            m.put(1, 1);
            m.demand(0, 0, 1, 15, 0, 11);
            m.demand(0, 1, 1, 5, 0, 11);
            m.see(0, 5, 0, 1);
        };
        fits("5 .. 14 by one", two, 10, 5);
        fits("5 .. 14 by two alike", Edge.then(two, m -> m.see(0, 8, 0, 1)), 10, 5);
        fits("one of two by none", Edge.then(two, m -> m.see(0, 8, 0, 2)), 0, NOT_ANY);
        fits("the fifth of five by none", Edge.then(two, m -> {
            m.see(0, 4, 0, 1);
            m.see(0, 3, 0, 1);
            m.see(0, 6, 0, 1);
            m.see(0, 7, 0, 2);
        }), 0, NOT_ANY);
        fits("five alike", Edge.then(two, m -> {
            m.see(0, 4, 0, 1);
            m.see(0, 3, 0, 1);
            m.see(0, 6, 0, 1);
            m.see(0, 7, 0, 1);
        }), 10, 5);
        fits("the STATE as well", m -> {
            m.put(1, 1);
            m.put(2, 0);
            m.demand(0, 0, 2, 5, 0, 11);
            m.inflow(0, 0, 0);
            m.see(0, 0, 0, 0);
        }, 21, 0);
        fits("of the second MONTH", m -> {
            m.put(1, 2);
            m.demand(0, 0, 2, 5, 0, 11);
            m.see(1, 8, 0, 1);
        }, 16, 5);
    }

    private static void promise31NotAheadAnyMore() {
        Edge.Scene scene = m -> {
            m.put(1, 3);
            m.put(2, 0);
            m.demand(0, 0, 2, 30, 0, 11);
            m.see(2, 5, 0, 2);
        };
        fits("the last MONTH ahead of the HORIZON", scene, 21, 0);
        for (int horizon : new int[] {1, 2}) {
            fits("a MONTH that isn't ahead of the HORIZON any more: " + horizon,
                Edge.then(scene, m -> m.put(1, horizon)), 0, NOT_ANY);
        }
        fits("ahead of it again", Edge.then(scene, m -> {
            m.put(1, 2);
            m.put(1, 3);
        }), 21, 0);
        fits("one of two isn't ahead of it any more", Edge.then(scene, m -> {
            m.see(0, 5, 0, 2);
            m.put(1, 2);
        }), 0, NOT_ANY);
    }

    private static void promise31AboveCap() {
        Edge.Scene scene = m -> {
            m.put(1, 1);
            m.put(2, 0);
            m.demand(0, 0, 2, 30, 0, 11);
            m.see(0, 7, 0, 2);
        };
        fits("a STORE below CAP", scene, 21, 0);
        fits("a STORE of CAP", Edge.then(scene, m -> m.put(0, 7)), 21, 0);
        fits("a STORE above CAP", Edge.then(scene, m -> m.put(0, 6)), 0, NOT_ANY);
        fits("a STORE above CAP", Edge.then(scene, m -> m.put(0, 1)), 0, NOT_ANY);
        fits("of CAP again", Edge.then(scene, m -> {
            m.put(0, 6);
            m.put(0, 7);
        }), 21, 0);
        fits("one of two is above CAP", Edge.then(scene, m -> {
            m.see(0, 8, 0, 2);
            m.put(0, 7);
        }), 0, NOT_ANY);
    }

    private static void promise31Refusals() {
        for (Edge.Scene scene : new Edge.Scene[] {NEW, LIVED, FULL}) {
            Edge.refuses("Promise 31: NONE, what 0 .. 1", scene, NONE, Mind::fits, Edge.outside(0, 1));
        }
        // in MONTH 3 one of WORTH 4 goes without while LEFT is 4 or more
        Due.is("Promise 31: of LIVED", Edge.made(LIVED).fits(0), 17);
        Due.is("Promise 31: of LIVED", Edge.made(LIVED).fits(1), 4);
    }

    private static void promise32() {
        int[][] inside = {{0, 1}, {0, 2}, {0, 11}, {0, 12}, {1, 0}, {1, 1}, {1, 8}, {1, 9}, {2, 0}, {2, 1}, {2, 8},
            {2, 9}, {3, 0},
            {3, 3}};
        for (int[] row : inside) {
            Edge.changes("Promise 32, ==== 2 PLAN: 0 CAP, 1 DRIES, 2 HARM, 3 DEMAND: " + row[0] + " " + row[1], LIVED,
                m -> m.plan(row[0], row[1]), 5, "count(2)=5");
        }
        Edge.changes("Promise 32: the first row", NEW, m -> m.plan(0, 1), 1, "count(2)=1");
        Mind m = new Mind();
        for (int k = 1; k <= 8; k++) {
            Due.is("Promise 32, ==== 2 8 rows at most", m.plan(1, 0), k);
            Due.is("Promise 39: of the PLAN", m.count(2), k);
        }
        Due.is("Promise 32: FULL: 8", m.plan(1, 0), FULL_UP);
        Due.is("Promise 32: empty then", m.plan(-1, 0), 0);
        Due.is("Promise 32: not FULL any more", m.plan(1, 0), 1);
    }

    private static void promise32Emptied() {
        for (int v : new int[] {0, -1, 13, MIN, MAX}) {
            for (Edge.Scene scene : new Edge.Scene[] {NEW, LIVED, FULL}) {
                Edge.changes("Promise 32: what -1: it is empty then, 0, whatever the other is: " + v, scene,
                    m -> m.plan(-1, v), 0,
                    "count(2)=0");
            }
        }
        Mind m = Edge.made(LIVED);
        m.plan(-1, 0);
        Due.is("Promise 33: ENDS of an empty PLAN is BEST", m.ends(7, 2), m.best(0, 7, 2));
    }

    private static void promise32Refusals() {
        for (int v : new int[] {0, 5, -1, 13, MAX}) {
            Edge.refuses("Promise 32: NONE, what 0 .. 3, ahead of BAD: " + v, LIVED, NONE,
                (m, what) -> m.plan(what, v), -2, 4, MIN, MAX);
            Edge.refuses("Promise 32: NONE, what 0 .. 3, ahead of BAD and FULL: " + v, FULL, NONE,
                (m, what) -> m.plan(what, v), -2, 4);
        }
        Edge.refuses("Promise 32: NONE, by 3 DEMAND v, there are 4", LIVED, NONE, (m, v) -> m.plan(3, v),
            Edge.outside(0, 3));
        Edge.refuses("Promise 32: NONE, by 3 DEMAND v, there are 6, ahead of FULL", FULL, NONE, (m, v) -> m.plan(3, v),
            Edge.outside(0, 5));
        Edge.refuses("Promise 32: NONE, by 3 DEMAND v, there are none", NEW, NONE, (m, v) -> m.plan(3, v), 0, -1);
        String[] names = {"CAP 1 .. 12", "DRIES 0 .. 9", "HARM 0 .. 9"};
        for (int k = 0; k < 3; k++) {
            int what = k;
            int[] outside = k == 0 ? Edge.outside(1, 12) : Edge.outside(0, 9);
            Edge.refuses("Promise 32: BAD, " + names[k], LIVED, BAD, (m, v) -> m.plan(what, v), outside);
            Edge.refuses("Promise 32: BAD ahead of FULL, " + names[k], FULL, BAD, (m, v) -> m.plan(what, v), outside);
            Edge.refuses("Promise 32: FULL: 8", FULL, FULL_UP, (m, v) -> m.plan(what, v), 1, 9);
        }
        Edge.refuses("Promise 32: FULL: 8", FULL, FULL_UP, (m, v) -> m.plan(3, v), 0, 5);
    }

    private static void ends(String place, Edge.Scene scene, int store, int state, float due) {
        Edge.keeps("Promise 33, ==== 2 ENDS: " + place, scene, m -> m.ends(store, state), Due.bits(due));
    }

    private static Edge.Scene planned(Edge.Scene scene, int... rows) {
        return m -> {
            scene.set(m);
            for (int k = 0; k < rows.length; k += 2) {
                m.plan(rows[k], rows[k + 1]);
            }
        };
    }

    /** One MONTH, LEFT 3: 8 and 4 are 12; 2 of them for 10 each. */
    private static void promise33EachRow() {
        ends("an empty PLAN: BEST", ONE, 8, 2, 20f + 24f);
        ends("CAP is 1", planned(ONE, 0, 1), 8, 2, 20f + 3f);
        ends("CAP is 12: 2 more are kept", planned(ONE, 0, 12), 8, 2, 20f + 30f);
        ends("DRIES are 0", planned(ONE, 1, 0), 8, 2, 20f + 24f);
        ends("DRIES are 9: 7 of 8 dry away", planned(ONE, 1, 9), 8, 2, 20f + 9f);
        ends("DRIES are 1: none of 8 dries away, one of 10 would", planned(ONE, 1, 1), 8, 2, 20f + 24f);
        ends("DEMAND 0 is none", planned(ONE, 3, 0), 8, 2, 24f);
        // no more than 18 must ever go, of 20 that can, so nothing has to be SPILLED, and HARM shows in no BEST
        ends("HARM is 0", planned(Edge.then(ONE, m -> m.month(0, 1, 9)), 2, 0), 8, 2, 20f);
        ends("HARM is 9", planned(Edge.then(ONE, m -> m.month(0, 1, 9)), 2, 9), 8, 2, 20f);
        ends("DRIES of all MONTHS", planned(Edge.then(ONE, m -> m.month(0, 0, 9)), 1, 0), 8, 2, 20f + 24f);
        Edge.Scene both = m -> {
            m.put(1, 12);
            m.put(3, 50);
            for (int month = 0; month < 12; month++) {
                m.inflow(month, 0, 0);
                m.inflow(month, 1, 0);
                m.inflow(month, 2, 0);
            }
            m.month(11, 0, 5);
        };
        ends("DRIES of MONTH 11", both, 8, 0, 200f);
        ends("DRIES of all MONTHS are 0", planned(both, 1, 0), 8, 0, 400f);
        ends("DRIES of all MONTHS are 2: 8 7 6 5 4 4 ..", planned(both, 1, 2), 8, 0, 200f);
        ends("DRIES of all MONTHS are 5: 8 4 2 1 1 ..", planned(both, 1, 5), 8, 0, 50f);
    }

    private static void promise33Rows() {
        ends("one behind the other: the last CAP stands", planned(ONE, 0, 1, 0, 8), 8, 2, 20f + 24f);
        ends("one behind the other: the last CAP stands", planned(ONE, 0, 12, 0, 2), 2, 2, 20f + 6f);
        ends("one behind the other: the last DRIES stand", planned(ONE, 1, 9, 1, 0), 8, 2, 20f + 24f);
        ends("one behind the other: the last DRIES stand", planned(ONE, 1, 0, 1, 9), 8, 2, 20f + 9f);
        ends("all together", planned(ONE, 0, 12, 1, 5, 2, 9, 3, 0), 8, 2, 24f);
        ends("the eighth of eight", planned(ONE, 2, 1, 2, 1, 2, 1, 2, 1, 2, 1, 2, 1, 2, 1, 3, 0), 8, 2, 24f);
        Mind m = Edge.made(planned(ONE, 0, 12, 1, 9, 2, 9, 3, 0));
        m.ends(8, 2);
        Due.is("Promise 33: in thought: CAP is as it was", m.told(0), 8);
        Due.is("Promise 33: in thought: HARM is as it was", m.told(2), 2);
        Due.is("Promise 33: in thought: DRIES are as they were", m.monthOf(0, 3), 0);
        Due.is("Promise 33: in thought: the DEMAND is there", m.wanted(0, 0), 2);
        Due.is("Promise 33: in thought: BEST is as it was", m.best(0, 8, 2), Due.bits(44f));
    }

    private static void promise33StoreAboveCap() {
        Edge.Scene bare = m -> {
            m.put(1, 1);
            m.inflow(0, 0, 0);
        };
        // DRIES 5, so that it shows which STORE it was: half of 4 or of 5, 8
        for (int cap = 1; cap <= 12; cap++) {
            for (int store = 0; store <= 8; store++) {
                int is = Math.min(store, cap);
                ends("a STORE above CAP is CAP then: " + store + " by " + cap, planned(bare, 0, cap, 1, 5), store, 0,
                    3f * (is - is * 5 / 10));
            }
        }
        ends("it is cut by the CAP that stands in the end", planned(bare, 0, 2, 0, 12), 8, 0, 24f);
        Edge.keeps("Promise 33: NO, a STORE 0 .. CAP as it is now", planned(bare, 0, 12), m -> m.ends(9, 0), NO);
        Edge.keeps("Promise 33: a STORE of CAP as it is now", planned(bare, 0, 12), m -> m.ends(8, 0), Due.bits(24f));
        Edge.keeps("Promise 33: a STORE of CAP as it is now", planned(bare, 0, 1), m -> m.ends(8, 0), Due.bits(3f));
    }

    private static void promise33Demands() {
        Edge.Scene scene = m -> {
            m.put(1, 1);
            m.put(3, 0);
            for (int k = 0; k < 6; k++) {
                m.demand(0, 0, 1, 1 + k * k, 0, 11);
            }
        };
        // worth 1, 2, 5, 10, 17, 26 together 61
        int[] worths = {1, 2, 5, 10, 17, 26};
        for (int d = 0; d < 6; d++) {
            ends("DEMAND " + d + " is none", planned(scene, 3, d), 8, 0, 61 - worths[d]);
            ends("DEMAND " + d + " is none already", planned(scene, 3, d, 3, d), 8, 0, 61 - worths[d]);
        }
        ends("DEMANDS keep their numbers meanwhile", planned(scene, 3, 0, 3, 1), 8, 0, 58f);
        ends("DEMANDS keep their numbers meanwhile", planned(scene, 3, 1, 3, 0), 8, 0, 58f);
        ends("DEMANDS keep their numbers meanwhile: the last", planned(scene, 3, 0, 3, 1, 3, 2, 3, 5), 8, 0, 27f);
        ends("all are none", planned(scene, 3, 0, 3, 1, 3, 2, 3, 3, 3, 4, 3, 5), 8, 0, 0f);
        ends("one that there isn't any more is none already", Edge.then(planned(scene, 3, 5), m -> m.drop(5)), 8, 0,
            35f);
        ends("one that there isn't any more, as others were dropped", Edge.then(planned(scene, 3, 5), m -> m.drop(0)),
            8, 0, 60f);
        ends("there are none any more", Edge.then(planned(ONE, 3, 0), m -> m.drop(0)), 8, 0, 24f);
        Edge.Scene firm = m -> {
            m.put(1, 1);
            m.put(3, 0);
            m.inflow(0, 0, 0);
            m.demand(1, 0, 9, 5, 0, 0);
            m.demand(3, 1, 9, 5, 0, 0);
        };
        ends("a FIRM one that is none lacks nothing", planned(firm, 3, 0), 0, 0, -45f);
        ends("a STEPPED one that is none lacks nothing, and has none met", planned(firm, 3, 1), 0, 0, -45f);
        ends("both lack all", firm, 0, 0, -90f);
        ends("neither lacks anything", planned(firm, 3, 0, 3, 1), 0, 0, 0f);
    }

    private static void promise33Refusals() {
        int[] caps = {8, 7, 12};
        Edge.Scene[] scenes = {NEW, LIVED, FULL};
        for (int k = 0; k < 3; k++) {
            Edge.refuses("Promise 33: NO, a STORE 0 .. CAP as it is now", scenes[k], NO, (m, v) -> m.ends(v, 0),
                Edge.outside(0, caps[k]));
            Edge.refuses("Promise 33: NO, a STORE 0 .. CAP as it is now", scenes[k], NO, (m, v) -> m.ends(v, 2),
                Edge.outside(0, caps[k]));
            Edge.refuses("Promise 33: NO, STATES 0 .. 2", scenes[k], NO, (m, v) -> m.ends(0, v), Edge.outside(0, 2));
        }
        Edge.keeps("Promise 33: it is asked", LIVED, m -> m.ends(7, 2), Edge.made(LIVED).ends(7, 2));
    }

    private static void promise34() {
        int[][] inside = {{0, 0, 0}, {11, 12, 20}, {1, 1, 1}, {10, 11, 19}, {5, 8, 0}};
        for (int[] b : inside) {
            Edge.changes("Promise 34, ==== 2 BOOK: month (0 .. 11), store (0 .. 12), r (0 .. 20)", NEW,
                m -> m.book(b[0], b[1], b[2]), 1,
                "count(3)=1");
            Edge.changes("Promise 34: how many there are", LIVED, m -> m.book(b[0], b[1], b[2]), 3, "count(3)=3");
        }
        Mind m = new Mind();
        for (int k = 1; k <= 8; k++) {
            Due.is("Promise 34, ==== 2 8 rows at most", m.book(0, 0, 0), k);
            Due.is("Promise 39: of the BOOK", m.count(3), k);
        }
        Due.is("Promise 34: FULL: 8", m.book(0, 0, 0), FULL_UP);
        Due.is("Promise 34: empty then", m.book(-1, 0, 0), 0);
        Due.is("Promise 34: not FULL any more", m.book(0, 0, 0), 1);
    }

    private static void promise34Emptied() {
        for (int v : new int[] {0, -1, 21, MIN, MAX}) {
            for (Edge.Scene scene : new Edge.Scene[] {NEW, LIVED, FULL}) {
                Edge.changes("Promise 34: month -1: it is empty then, 0, whatever the others are: " + v, scene,
                    m -> m.book(-1, v, v), 0,
                    "count(3)=0");
            }
        }
        Mind m = Edge.made(FULL);
        m.book(-1, 0, 0);
        Due.is("Promise 35: an empty BOOK", m.looked(), NOT_ANY);
    }

    private static void promise34Refusals() {
        for (int v : new int[] {0, 12, -1, 21}) {
            Edge.refuses("Promise 34: NONE, month 0 .. 11, ahead of BAD: " + v, LIVED, NONE, (m, k) -> m.book(k, v, v),
                -2, 12, MIN, MAX);
            Edge.refuses("Promise 34: NONE, ahead of BAD and FULL: " + v, FULL, NONE, (m, k) -> m.book(k, v, v), -2,
                12, MIN, MAX);
        }
        for (Edge.Scene scene : new Edge.Scene[] {NEW, LIVED, FULL}) {
            String place = scene == FULL ? "Promise 34: BAD ahead of FULL" : "Promise 34: BAD";
            Edge.refuses(place + ", store 0 .. 12", scene, BAD, (m, v) -> m.book(0, v, 0), Edge.outside(0, 12));
            Edge.refuses(place + ", r 0 .. 20", scene, BAD, (m, v) -> m.book(0, 0, v), Edge.outside(0, 20));
        }
        Edge.refuses("Promise 34: FULL: 8", FULL, FULL_UP, (m, v) -> m.book(v, v, v), 0, 11);
    }

    private static void looked(String place, Edge.Scene scene, int due) {
        Edge.keeps("Promise 35, ==== 2 LOOKED at: " + place, scene, Mind::looked, due);
    }

    private static Edge.Scene booked(Edge.Scene scene, int... rows) {
        return m -> {
            scene.set(m);
            for (int k = 0; k < rows.length; k += 3) {
                m.book(rows[k], rows[k + 1], rows[k + 2]);
            }
        };
    }

    private static void promise35() {
        looked("an empty BOOK", ONE, NOT_ANY);
        looked("one row that is RELEASE", booked(ONE, 0, 5, 2), NOT_ANY);
        looked("one row that is 1 less", booked(ONE, 0, 5, 1), 0);
        looked("one row that is 1 more", booked(ONE, 0, 5, 3), 0);
        for (int k = 0; k < 8; k++) {
            int[] rows = new int[24];
            int[] two = new int[24];
            for (int row = 0; row < 8; row++) {
                rows[3 * row + 1] = row;
                rows[3 * row + 2] = row == k ? 9 : 2;
                two[3 * row + 1] = row;
                two[3 * row + 2] = row >= k ? 9 : 2;
            }
            looked("the number of the first of these that isn't: " + k, booked(ONE, rows), k);
            looked("the number of the first of several: " + k, booked(ONE, two), k);
        }
        looked("eight that are", booked(ONE, 0, 0, 2, 0, 1, 2, 0, 2, 2, 0, 3, 2, 0, 4, 2, 0, 5, 2, 0, 6, 2, 0, 7, 2),
            NOT_ANY);
        // by DRY nothing is THERE, by MEAN 1, by WET 2
        Edge.Scene states = Edge.then(ONE, m -> {
            m.inflow(0, 0, 0);
            m.inflow(0, 1, 1);
            m.inflow(0, 2, 2);
        });
        looked("by STATE 1", booked(states, 0, 0, 1), NOT_ANY);
        looked("not by STATE 0", booked(states, 0, 0, 0), 0);
        looked("not by STATE 2", booked(states, 0, 0, 2), 0);
        looked("isn't RELEASE now", Edge.then(booked(ONE, 0, 5, 2), m -> m.put(3, 10)), 0);
        looked("is RELEASE now", Edge.then(booked(ONE, 0, 5, 0), m -> m.put(3, 10)), NOT_ANY);
        looked("rows that are RELEASE as they come", LIVED, NOT_ANY);
        looked("LEFT is 99, so nothing is let go, of a STORE of 1 neither", FULL, 1);
    }

    private static void promise35NotAhead() {
        for (int horizon : new int[] {1, 2, 11, 12}) {
            Edge.Scene scene = m -> {
                m.put(1, horizon);
                m.put(0, 12);
            };
            looked("the last MONTH ahead of the HORIZON " + horizon, booked(scene, horizon - 1, 0, 0), NOT_ANY);
            if (horizon < 12) {
                looked("not ahead of the HORIZON " + horizon, booked(scene, horizon, 0, 0), 0);
                looked("not ahead of the HORIZON, the second row", booked(scene, 0, 0, 0, horizon, 0, 0), 1);
                looked("ahead of it now", Edge.then(booked(scene, horizon, 0, 0), m -> m.put(1, horizon + 1)), NOT_ANY);
            }
        }
    }

    private static void promise35AboveCap() {
        for (int cap : new int[] {1, 7, 11}) {
            Edge.Scene scene = m -> {
                m.put(1, 1);
                m.put(0, cap);
                m.inflow(0, 1, 0);
            };
            looked("a STORE of CAP " + cap, booked(scene, 0, cap, 0), NOT_ANY);
            looked("a STORE above CAP " + cap, booked(scene, 0, cap + 1, 0), 0);
            looked("a STORE above CAP, the second row", booked(scene, 0, 0, 0, 0, 12, 0), 1);
            looked("of CAP now", Edge.then(booked(scene, 0, cap + 1, 0), m -> m.put(0, cap + 1)), NOT_ANY);
        }
        Edge.Scene twelve = m -> {
            m.put(0, 12);
            m.inflow(0, 1, 0);
        };
        looked("a STORE of CAP 12", booked(twelve, 0, 12, 0), NOT_ANY);
    }
}
