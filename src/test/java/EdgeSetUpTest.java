import java.util.ArrayList;
import java.util.List;

/** The bounds of promises 1 to 9, and of the Terms of ==== 1 that say which numbers the reservoir may have. */
public final class EdgeSetUpTest {
    private static final int NONE = ReservoirMind.NONE, BAD = ReservoirMind.BAD, FULL_UP = ReservoirMind.FULL;
    private static final int MIN = Edge.MIN, MAX = Edge.MAX;
    private static final Edge.Scene NEW = Scenes.NEW, LIVED = Scenes.LIVED, FULL = Scenes.FULL;

    public static void main(String[] args) {
        promise1();
        promise1ObjectsAreApart();
        promise2();
        promise2Refusals();
        promise3();
        promise4();
        promise4NotAllThree();
        promise5();
        promise5Top();
        promise6();
        promise6Refusals();
        promise7();
        promise7Refusals();
        promise8();
        promise8Order();
        promise8Served();
        promise9();
        Due.end("EdgeSetUpTest");
    }

    private static void promise1() {
        Edge.tells("==== 1 CAP: 8 at first", NEW, Look.TOLD, "told(0)=8");
        Edge.tells("==== 1 the HORIZON: 6 at first", NEW, Look.TOLD, "told(1)=6");
        Edge.tells("==== 1 HARM: 2 at first", NEW, Look.TOLD, "told(2)=2");
        Edge.tells("==== 1 LEFT: 3 at first", NEW, Look.TOLD, "told(3)=3");
        Edge.tells("Promise 1: no DEMANDS", NEW, Look.TOLD, "told(4)=0", "count(0)=0", "demandOf(0, 0)=-1");
        for (int month = 0; month < 12; month++) {
            String of = "monthOf(" + month + ", ";
            Edge.tells("==== 1 INFLOW: 1, 2, 4 at first", NEW, Look.TOLD, of + "0)=1", of + "1)=2", of + "2)=4");
            Edge.tells("==== 1 DRIES: 0 at first", NEW, Look.TOLD, of + "3)=0");
            Edge.tells("==== 1 FLOOD: 0 at first, so TOP is CAP", NEW, Look.TOLD, of + "4)=0", of + "5)=8");
        }
        for (int from = 0; from < 3; from++) {
            String of = "partOf(" + from + ", ";
            Edge.tells("==== 1 PARTS: 1 each at first", NEW, Look.TOLD, of + "0)=1", of + "1)=1", of + "2)=1",
                of + "3)=3");
        }
        Edge.tells("Promise 1: nothing SEEN, no PLAN, no BOOK", NEW, Look.TOLD, "count(1)=0", "count(2)=0",
            "count(3)=0");
        Edge.tells("Promise 1: THE TEXT is empty", NEW, Look.RECORDS, "count(4)=0");
        Edge.tells("==== 2 RECORDS: 0 MONTHS at first", NEW, Look.RECORDS, "count(5)=0", "count(6)=0", "count(7)=0",
            "count(8)=0");
        Edge.tells("Promise 1: there is no IMAGE", NEW, Look.IMAGE, "undo()=-3");
        for (int tape = 0; tape < 6; tape++) {
            Look look = tape < 3 ? Look.TAPES_0_TO_2 : Look.TAPES_3_TO_5;
            Edge.tells("==== 3 TAPES hold nothing at first", NEW, look, "then item(" + tape + ", 0, ..)=-11");
        }
    }

    private static void promise1ObjectsAreApart() {
        Mind other = Edge.made(FULL);
        for (Look look : Look.values()) {
            Edge.same("Promise 1: a new object beside one with everything in it", look.of(new Mind()),
                Edge.looked(NEW, look));
        }
        Due.is("Promise 1: and the other is as it was", other.told(4), 6);
    }

    /** TOP of each MONTH by another CAP. */
    private static void addTops(List<String> rows, Edge.Scene scene, int cap) {
        for (int month = 0; month < 12; month++) {
            long top = cap - Edge.told(scene, "monthOf(" + month + ", 4)");
            rows.add("monthOf(" + month + ", 5)=" + (top < 0 ? 0 : top));
        }
    }

    private static void promise2() {
        String[] names = {"CAP: 1 .. 12", "the HORIZON: 1 .. 12", "HARM: 0 .. 9", "LEFT: 0 .. 99"};
        int[][] inside = {{1, 2, 11, 12}, {1, 2, 11, 12}, {0, 1, 8, 9}, {0, 1, 98, 99}};
        int[] least = {1, 1, 0, 0};
        int[] most = {12, 12, 9, 99};
        for (int k = 0; k < 4; k++) {
            int what = k;
            for (Edge.Scene scene : new Edge.Scene[] {NEW, LIVED, FULL}) {
                String place = "Promise 2, ==== 1 " + names[what];
                long was = Edge.told(scene, "told(" + what + ")");
                for (int v : inside[what]) {
                    List<String> rows = new ArrayList<>();
                    rows.add("told(" + what + ")=" + v);
                    if (what == 0) {
                        addTops(rows, scene, v);
                    }
                    Edge.changes(place + ": put " + v, scene, m -> m.put(what, v), was, rows.toArray(new String[0]));
                }
                Edge.keeps(place + ": put what it is", scene, m -> m.put(what, (int) was), was);
                Edge.refuses(place + ": BAD", scene, BAD, (m, v) -> m.put(what, v),
                    Edge.outside(least[what], most[what]));
            }
        }
    }

    private static void promise2Refusals() {
        for (Edge.Scene scene : new Edge.Scene[] {NEW, LIVED}) {
            Edge.refuses("Promise 2: NONE, what 0 .. 3", scene, NONE, (m, what) -> m.put(what, 5), Edge.outside(0, 3));
            Edge.refuses("Promise 2: NONE ahead of BAD", scene, NONE, (m, what) -> m.put(what, 100),
                Edge.outside(0, 3));
            Edge.refuses("Promise 2: NONE ahead of BAD", scene, NONE, (m, what) -> m.put(what, -1), Edge.outside(0, 3));
            Edge.refuses("Promise 11: NONE, what 0 .. 4", scene, NONE, (m, what) -> m.told(what), Edge.outside(0, 4));
        }
        Mind m = new Mind();
        Due.is("Promise 2: what it was", m.put(3, 7), 3);
        Due.is("Promise 2: what it was, of the last one", m.put(3, 9), 7);
    }

    private static void promise3() {
        for (int month : new int[] {0, 1, 10, 11}) {
            for (int state = 0; state < 3; state++) {
                int i = state;
                String words = "monthOf(" + month + ", " + state + ")";
                for (int v : new int[] {0, 1, 8, 9}) {
                    Edge.changes("Promise 3, ==== 1 INFLOW: 0 .. 9 units: " + words + " becomes " + v, LIVED,
                        m -> m.inflow(month, i, v), Edge.told(LIVED, words), words + "=" + v);
                }
                Edge.refuses("Promise 3: BAD, INFLOW 0 .. 9", LIVED, BAD, (m, v) -> m.inflow(month, i, v),
                    Edge.outside(0, 9));
            }
        }
        for (int v : new int[] {5, -1, 10}) {
            Edge.refuses("Promise 3: NONE, MONTHS 0 .. 11, ahead of BAD: inflow " + v, LIVED, NONE,
                (m, month) -> m.inflow(month, 0, v), Edge.outside(0, 11));
            Edge.refuses("Promise 3: NONE, STATES 0 .. 2, ahead of BAD: inflow " + v, LIVED, NONE,
                (m, state) -> m.inflow(0, state, v), Edge.outside(0, 2));
        }
    }

    private static void promise4() {
        for (int k = 0; k < 9; k++) {
            int from = k / 3;
            int to = k % 3;
            String words = "partOf(" + from + ", " + to + ")";
            long was = Edge.told(LIVED, words);
            long all = Edge.told(LIVED, "partOf(" + from + ", 3)");
            for (int v : new int[] {0, 1, 8, 9}) {
                Edge.changes("Promise 4, ==== 1 PARTS: 0 .. 9: " + words + " becomes " + v, LIVED,
                    m -> m.part(from, to, v), was, words + "=" + v, "partOf(" + from + ", 3)=" + (all - was + v));
            }
            Edge.refuses("Promise 4: BAD, PARTS 0 .. 9", LIVED, BAD, (m, v) -> m.part(from, to, v), Edge.outside(0, 9));
        }
        for (int v : new int[] {5, -1, 10}) {
            Edge.refuses("Promise 4: NONE, from a STATE 0 .. 2, ahead of BAD: part " + v, LIVED, NONE,
                (m, from) -> m.part(from, 0, v), Edge.outside(0, 2));
            Edge.refuses("Promise 4: NONE, to a STATE 0 .. 2, ahead of BAD: part " + v, LIVED, NONE,
                (m, to) -> m.part(0, to, v), Edge.outside(0, 2));
        }
    }

    /** "not all three from one 0": the last that isn't 0 can't become 0, whichever it is. */
    private static void promise4NotAllThree() {
        for (int k = 0; k < 9; k++) {
            int from = k / 3;
            int last = k % 3;
            Edge.Scene two = m -> {
                m.part(from, (last + 1) % 3, 0);
                m.part(from, (last + 2) % 3, 0);
            };
            String all = "partOf(" + from + ", 3)";
            String of = "partOf(" + from + ", " + last + ")";
            String place = "Promise 4, ==== 1 PARTS, not all three from one 0: " + of;
            Edge.keeps(place + " can't be 0", two, m -> m.part(from, last, 0), BAD);
            Edge.keeps(place + " can be what it is", two, m -> m.part(from, last, 1), 1);
            Edge.changes(place + " can be more", two, m -> m.part(from, last, 9), 1, of + "=9", all + "=9");
            Edge.keeps(place + ", the others can stay 0", two, m -> m.part(from, (last + 1) % 3, 0), 0);
            Edge.changes(place + " can be 0 if another is 1", Edge.then(two, m -> m.part(from, (last + 2) % 3, 1)),
                m -> m.part(from, last, 0), 1, of + "=0", all + "=1");
            int other = (from + 1) % 3;
            Edge.changes(place + ", from another STATE one can be 0", two, m -> m.part(other, last, 0), 1,
                "partOf(" + other + ", " + last + ")=0", "partOf(" + other + ", 3)=2");
            Edge.keeps(place + ", NONE ahead of BAD", two, m -> m.part(from, 3, 0), NONE);
        }
    }

    private static void promise5() {
        String[] names = {"DRIES", "FLOOD"};
        for (int month : new int[] {0, 1, 5, 10, 11}) {
            for (int k = 0; k < 2; k++) {
                int what = k;
                String words = "monthOf(" + month + ", " + (3 + what) + ")";
                long top = Edge.told(LIVED, "monthOf(" + month + ", 5)");
                for (int v : new int[] {0, 1, 8, 9}) {
                    long due = what == 0 ? top : Math.max(0, 7 - v);
                    Edge.changes("Promise 5, ==== 1 " + names[what] + ": 0 .. 9: " + words + " becomes " + v, LIVED,
                        m -> m.month(month, what, v), Edge.told(LIVED, words), words + "=" + v,
                        "monthOf(" + month + ", 5)=" + due);
                }
                Edge.refuses("Promise 5: BAD, " + names[what] + " 0 .. 9", LIVED, BAD,
                    (m, v) -> m.month(month, what, v), Edge.outside(0, 9));
            }
        }
        for (int v : new int[] {5, -1, 10}) {
            Edge.refuses("Promise 5: NONE, MONTHS 0 .. 11, ahead of BAD: " + v, LIVED, NONE,
                (m, month) -> m.month(month, 0, v), Edge.outside(0, 11));
            Edge.refuses("Promise 5: NONE, what 0 .. 1, ahead of BAD: " + v, LIVED, NONE,
                (m, what) -> m.month(0, what, v), Edge.outside(0, 1));
        }
    }

    private static void promise5Top() {
        int[][] dues = {{5, 0, 5}, {5, 4, 1}, {5, 5, 0}, {5, 6, 0}, {5, 9, 0}, {1, 0, 1}, {1, 1, 0}, {1, 2, 0},
            {8, 7, 1},
            {8, 8, 0}, {8, 9, 0}, {9, 8, 1}, {9, 9, 0}, {12, 9, 3}, {12, 0, 12}};
        for (int[] due : dues) {
            Mind m = new Mind();
            m.put(0, due[0]);
            m.month(7, 1, due[1]);
            Due.is("==== 1 TOP: CAP less FLOOD, 0 at least: " + due[0] + " less " + due[1], m.monthOf(7, 5), due[2]);
        }
    }

    private static void promise6() {
        int[][] inside = {{0, 0, 1, 0, 0, 0}, {1, 1, 2, 1, 1, 1}, {3, 8, 8, 98, 10, 10}, {4, 9, 9, 99, 11, 11},
            {4, 0, 1, 0, 0, 11}, {0, 9, 9, 99, 11, 0}};
        for (int[] d : inside) {
            Edge.changes("Promise 6, ==== 1 DEMANDS: KIND 0 .. 4, RANK 0 .. 9, WANTS 1 .. 9, WORTH 0 .. 99",
                NEW, m -> m.demand(d[0], d[1], d[2], d[3], d[4], d[5]), 0, "told(4)=1", "count(0)=1",
                    "demandOf(0, 0)=" + d[0],
                "demandOf(0, 1)=" + d[1], "demandOf(0, 2)=" + d[2], "demandOf(0, 3)=" + d[3], "demandOf(0, 4)=" + d[4],
                "demandOf(0, 5)=" + d[5], "demandOf(0, 6)=0");
        }
        Edge.changes("Promise 14, its place by RANK: one of like RANK goes behind", LIVED,
            m -> m.demand(0, 1, 7, 50, 3, 4), 4,
            "told(4)=5", "count(0)=5", "demandOf(4, 0)=0", "demandOf(4, 1)=1", "demandOf(4, 2)=7", "demandOf(4, 3)=50",
            "demandOf(4, 4)=3", "demandOf(4, 5)=4", "demandOf(4, 6)=1", "demandOf(0, 6)=2", "demandOf(2, 6)=3",
            "demandOf(3, 6)=4");
        Mind m = new Mind();
        for (int k = 0; k < 6; k++) {
            Due.is("==== 1 DEMANDS 0 .. 5, as they come: its number", m.demand(0, 9 - k, 1, 0, 0, 0), k);
        }
        Due.is("Promise 6: FULL: 6", m.demand(0, 0, 1, 0, 0, 0), FULL_UP);
        Due.is("Promise 8: drop of one of 6", m.drop(3), 5);
        Due.is("Promise 6: not FULL any more", m.demand(4, 0, 1, 0, 0, 0), 5);
        Due.is("Promise 6: FULL again", m.demand(0, 0, 1, 0, 0, 0), FULL_UP);
    }

    private static void promise6Refusals() {
        for (Edge.Scene scene : new Edge.Scene[] {NEW, LIVED, FULL}) {
            String place = scene == FULL ? "Promise 6: BAD ahead of FULL" : "Promise 6: BAD";
            Edge.refuses(place + ", KIND 0 .. 4", scene, BAD, (m, v) -> m.demand(v, 0, 1, 0, 0, 0), Edge.outside(0, 4));
            Edge.refuses(place + ", RANK 0 .. 9", scene, BAD, (m, v) -> m.demand(0, v, 1, 0, 0, 0), Edge.outside(0, 9));
            Edge.refuses(place + ", WANTS 1 .. 9", scene, BAD, (m, v) -> m.demand(0, 0, v, 0, 0, 0),
                Edge.outside(1, 9));
            Edge.refuses(place + ", WORTH 0 .. 99", scene, BAD, (m, v) -> m.demand(0, 0, 1, v, 0, 0),
                Edge.outside(0, 99));
            Edge.refuses(place + ", FROM 0 .. 11", scene, BAD, (m, v) -> m.demand(0, 0, 1, 0, v, 0),
                Edge.outside(0, 11));
            Edge.refuses(place + ", TO 0 .. 11", scene, BAD, (m, v) -> m.demand(0, 0, 1, 0, 0, v), Edge.outside(0, 11));
        }
        Edge.keeps("Promise 6: FULL: 6", FULL, m -> m.demand(0, 0, 1, 0, 0, 0), FULL_UP);
        Edge.keeps("Promise 6: FULL: 6", FULL, m -> m.demand(4, 9, 9, 99, 11, 11), FULL_UP);
    }

    private static void promise7() {
        int[][] inside = {{0, 1, 8, 9}, {1, 2, 8, 9}, {0, 1, 98, 99}};
        int[] least = {0, 1, 0};
        int[] most = {9, 9, 99};
        String[] names = {"RANK 0 .. 9", "WANTS 1 .. 9", "WORTH 0 .. 99"};
        for (int demand : new int[] {0, 1, 3}) {
            for (int k = 0; k < 3; k++) {
                int what = k;
                String words = "demandOf(" + demand + ", " + (what + 1) + ")";
                Edge.refuses("Promise 7: BAD, " + names[what], LIVED, BAD, (m, v) -> m.renew(demand, what, v),
                    Edge.outside(least[what], most[what]));
                for (int v : inside[what]) {
                    if (what > 0) {
                        Edge.changes("Promise 7, ==== 1 " + names[what] + ": " + words + " becomes " + v, LIVED,
                            m -> m.renew(demand, what, v), Edge.told(LIVED, words), words + "=" + v);
                    }
                }
            }
        }
        // ranks are 2, 1, 2, 9
        int[][] ranks = {{0, 0, 2, 0, 1, 2, 3}, {0, 1, 2, 0, 1, 2, 3}, {0, 9, 2, 2, 0, 1, 3}, {2, 2, 2, 1, 0, 2, 3},
            {2, 1, 2, 2, 0, 1, 3}, {2, 0, 2, 2, 1, 0, 3}, {3, 2, 9, 1, 0, 2, 3}, {3, 1, 9, 2, 0, 3, 1},
                {3, 0, 9, 2, 1, 3, 0},
            {1, 2, 1, 0, 1, 2, 3}, {1, 3, 1, 0, 2, 1, 3}, {1, 9, 1, 0, 2, 1, 3}};
        for (int[] r : ranks) {
            Edge.changes("Promise 7, Promise 14, its place by RANK: demand " + r[0] + " of RANK " + r[1], LIVED,
                m -> m.renew(r[0], 0, r[1]), r[2], "demandOf(" + r[0] + ", 1)=" + r[1], "demandOf(0, 6)=" + r[3],
                "demandOf(1, 6)=" + r[4], "demandOf(2, 6)=" + r[5], "demandOf(3, 6)=" + r[6]);
        }
    }

    private static void promise7Refusals() {
        for (int v : new int[] {5, -1, 100}) {
            Edge.refuses("Promise 7: NONE, a DEMAND 0 .. 3, ahead of BAD: " + v, LIVED, NONE,
                (m, demand) -> m.renew(demand, 0, v), Edge.outside(0, 3));
            Edge.refuses("Promise 7: NONE, a DEMAND 0 .. 5, ahead of BAD: " + v, FULL, NONE,
                (m, demand) -> m.renew(demand, 2, v), Edge.outside(0, 5));
            Edge.refuses("Promise 7: NONE, what 0 .. 2, ahead of BAD: " + v, LIVED, NONE,
                (m, what) -> m.renew(0, what, v), Edge.outside(0, 2));
            Edge.refuses("Promise 7: NONE, there are no DEMANDS: " + v, NEW, NONE,
                (m, demand) -> m.renew(demand, 1, v), 0, 1, -1, MIN, MAX);
        }
        Edge.Scene dropped = Edge.then(LIVED, m -> m.drop(0));
        Edge.keeps("Promise 7: NONE, one that was DEMAND 3 until another was dropped", dropped, m -> m.renew(3, 1, 5),
            NONE);
        Edge.changes("Promise 7: it is DEMAND 2 then", dropped, m -> m.renew(2, 1, 5), 1, "demandOf(2, 2)=5");
    }

    /** Fields of those behind it become those of one less; places are told. */
    private static void drop(int demand, int... places) {
        List<String> rows = new ArrayList<>();
        for (int k = 0; k < 4; k++) {
            for (int what = 0; what <= 5; what++) {
                int of = k < demand ? k : k + 1;
                long due = k == 3 ? NONE : Edge.told(LIVED, "demandOf(" + of + ", " + what + ")");
                rows.add("demandOf(" + k + ", " + what + ")=" + due);
            }
            rows.add("demandOf(" + k + ", 6)=" + (k == 3 ? NONE : places[k]));
        }
        rows.add("told(4)=3");
        rows.add("count(0)=3");
        Edge.changes("Promise 8: those behind it are 1 less: drop " + demand, LIVED, m -> m.drop(demand), 3,
            rows.toArray(new String[0]));
    }

    private static void promise8() {
        drop(0, 0, 1, 2);
        drop(1, 0, 1, 2);
        drop(2, 1, 0, 2);
        drop(3, 1, 0, 2);
        Edge.refuses("Promise 8: NONE", LIVED, NONE, (m, demand) -> m.drop(demand), Edge.outside(0, 3));
        Edge.refuses("Promise 8: NONE", FULL, NONE, (m, demand) -> m.drop(demand), Edge.outside(0, 5));
        Edge.refuses("Promise 8: NONE, there are no DEMANDS", NEW, NONE, (m, demand) -> m.drop(demand), 0, -1, 5, MIN,
            MAX);
    }

    private static void promise8Order() {
        for (int first = 0; first < 6; first++) {
            Mind m = new Mind();
            for (int k = 0; k < 6; k++) {
                m.demand(0, 0, 1 + k, 0, 0, 0);
            }
            Due.is("Promise 8: how many are left of 6", m.drop(first), 5);
            for (int k = 0; k < 5; k++) {
                Due.is("Promise 8: those behind " + first + " are 1 less: " + k, m.demandOf(k, 2),
                    k < first ? 1 + k : 2 + k);
                Due.is("Promise 14: of like RANK by number", m.demandOf(k, 6), k);
            }
            Due.is("Promise 8: the last is none", m.demandOf(5, 2), NONE);
            for (int left = 4; left >= 0; left--) {
                Due.is("Promise 8: how many are left", m.drop(left), left);
            }
            Due.is("Promise 8: NONE, none is left", m.drop(0), NONE);
        }
    }

    /** Ranks 5, 0, 3, 4 want 1, 2, 3, 4: who goes first when each of them is dropped, of 3 units. */
    private static void promise8Served() {
        int[] ranks = {5, 0, 3, 4};
        long[][] dues = {{2, 1, 0}, {0, 3, 0}, {0, 2, 1}, {0, 2, 1}};
        for (int dropped = 0; dropped < 4; dropped++) {
            Mind m = new Mind();
            for (int k = 0; k < 4; k++) {
                m.demand(0, ranks[k], 1 + k, 0, 0, 11);
            }
            m.image();
            m.drop(dropped);
            for (int k = 0; k < 3; k++) {
                Due.is("Promise 8, ==== 1 SERVED by RANK: when " + dropped + " is dropped: " + k, m.served(k, 0, 3, 0),
                    dues[dropped][k]);
            }
            m.undo();
            long[] all = {0, 2, 1, 0};
            for (int k = 0; k < 4; k++) {
                Due.is("Promise 38, ==== 1 SERVED by RANK: when it is there again: " + k, m.served(k, 0, 3, 0), all[k]);
            }
        }
    }

    private static void promise9() {
        for (int sign : new int[] {0, 1, 126, 127}) {
            Edge.changes("Promise 9: a sign (0 .. 127): " + sign, NEW, m -> m.feed(sign), 1, "count(4)=1");
            Edge.changes("Promise 9: a sign comes behind THE TEXT's: " + sign, LIVED, m -> m.feed(sign), 8,
                "count(4)=8");
        }
        for (Edge.Scene scene : new Edge.Scene[] {NEW, LIVED}) {
            Edge.refuses("Promise 9: BAD, a sign 0 .. 127", scene, BAD, Mind::feed, -1, 128, 255, 256, MIN, MAX);
        }
        Edge.refuses("Promise 9: BAD ahead of FULL", FULL, BAD, Mind::feed, Edge.outside(0, 127));
        Edge.refuses("Promise 9, ==== 2 THE TEXT (100 at most): FULL", FULL, FULL_UP, Mind::feed, 0, 'c', 127);
        Edge.Scene almost = m -> Scenes.text(m, "c".repeat(99));
        Edge.changes("Promise 9: the 100th sign", almost, m -> m.feed('c'), 100, "count(4)=100");
        Edge.keeps("Promise 9: the 101st sign", Edge.then(almost, m -> m.feed('c')), m -> m.feed('c'), FULL_UP);
        Mind m = Edge.made(FULL);
        m.read();
        Due.is("Promise 9: not FULL when it has been read", m.feed('c'), 1);
        Mind told = new Mind();
        Scenes.text(told, "c3");
        Due.is("Promise 9: refused signs are not of THE TEXT", told.feed(128), BAD);
        Due.is("Promise 9: refused signs are not of THE TEXT", told.feed(-1), BAD);
        Due.is("Promise 10: so it is read without FAULT", told.read(), 1);
        Due.is("Promise 10: and done", told.told(0), 3);
    }
}
