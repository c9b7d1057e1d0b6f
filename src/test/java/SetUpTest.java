/** Promises 1 to 8, 11 to 14: a new object, what changes the reservoir and its demands, and what tells them. */
public final class SetUpTest {
    private static final int NONE = ReservoirMind.NONE, BAD = ReservoirMind.BAD, FULL = ReservoirMind.FULL;

    public static void main(String[] args) {
        promise1();
        promise2And11();
        promise3And12();
        promise4And13();
        promise5And12();
        promise6And14();
        promise7();
        promise8();
        Due.end("SetUpTest");
    }

    private static void promise1() {
        Mind m = new Mind();
        Due.is("told(0)", m.told(0), 8);
        Due.is("told(1)", m.told(1), 6);
        Due.is("told(2)", m.told(2), 2);
        Due.is("told(3)", m.told(3), 3);
        Due.is("told(4)", m.told(4), 0);
        for (int month = 0; month < 12; month++) {
            int[] due = {1, 2, 4, 0, 0, 8};
            for (int what = 0; what < 6; what++) {
                Due.is("monthOf(" + month + ", " + what + ") at first", m.monthOf(month, what), due[what]);
            }
        }
        for (int from = 0; from < 3; from++) {
            for (int to = 0; to < 3; to++) {
                Due.is("partOf at first", m.partOf(from, to), 1);
            }
            Due.is("partOf all at first", m.partOf(from, 3), 3);
        }
        for (int what = 0; what <= 8; what++) {
            Due.is("count(" + what + ") at first", m.count(what), 0);
        }
        for (int tape = 0; tape < 6; tape++) {
            Due.is("a tape holds nothing at first", m.item(tape, 0, 1L), -11);
        }
        Due.is("no image at first", m.undo(), ReservoirMind.STATE);
    }

    private static void promise2And11() {
        Mind m = new Mind();
        int[] first = {8, 6, 2, 3};
        int[] least = {1, 1, 0, 0};
        int[] most = {12, 12, 9, 99};
        for (int what = 0; what < 4; what++) {
            Due.is("put least", m.put(what, least[what]), first[what]);
            Due.is("told least", m.told(what), least[what]);
            Due.is("put most", m.put(what, most[what]), least[what]);
            Due.is("put below", m.put(what, least[what] - 1), BAD);
            Due.is("put above", m.put(what, most[what] + 1), BAD);
            Due.is("put far off", m.put(what, Integer.MIN_VALUE), BAD);
            Due.is("told most, as refusals change nothing", m.told(what), most[what]);
        }
        for (int what : new int[] {-1, 4, 5, Integer.MAX_VALUE, Integer.MIN_VALUE}) {
            Due.is("put of no such", m.put(what, 1), NONE);
            Due.is("put of no such goes ahead of BAD", m.put(what, 1000), NONE);
        }
        for (int what : new int[] {-1, 5, Integer.MAX_VALUE, Integer.MIN_VALUE}) {
            Due.is("told of no such", m.told(what), NONE);
        }
    }

    private static void promise3And12() {
        Mind m = new Mind();
        Due.is("inflow(0, 0, 9)", m.inflow(0, 0, 9), 1);
        Due.is("inflow(0, 0, 0)", m.inflow(0, 0, 0), 9);
        Due.is("inflow(11, 2, 7)", m.inflow(11, 2, 7), 4);
        Due.is("monthOf(0, 0)", m.monthOf(0, 0), 0);
        Due.is("monthOf(11, 2)", m.monthOf(11, 2), 7);
        Due.is("monthOf(11, 1)", m.monthOf(11, 1), 2);
        Due.is("monthOf(10, 2)", m.monthOf(10, 2), 4);
        Due.is("month", m.inflow(12, 0, 1), NONE);
        Due.is("month", m.inflow(-1, 0, 1), NONE);
        Due.is("state", m.inflow(0, 3, 1), NONE);
        Due.is("state", m.inflow(0, -1, 1), NONE);
        Due.is("NONE ahead of BAD", m.inflow(0, 3, 10), NONE);
        Due.is("above", m.inflow(0, 0, 10), BAD);
        Due.is("below", m.inflow(0, 0, -1), BAD);
        Due.is("monthOf unchanged", m.monthOf(0, 0), 0);
        Due.is("monthOf month", m.monthOf(12, 0), NONE);
        Due.is("monthOf month", m.monthOf(-1, 0), NONE);
        Due.is("monthOf what", m.monthOf(0, 6), NONE);
        Due.is("monthOf what", m.monthOf(0, -1), NONE);
    }

    private static void promise4And13() {
        Mind m = new Mind();
        Due.is("part(1, 1, 0)", m.part(1, 1, 0), 1);
        Due.is("part(1, 0, 0)", m.part(1, 0, 0), 1);
        Due.is("all three would be 0", m.part(1, 2, 0), BAD);
        Due.is("partOf(1, 2)", m.partOf(1, 2), 1);
        Due.is("part(1, 2, 9)", m.part(1, 2, 9), 1);
        Due.is("partOf(1, 3)", m.partOf(1, 3), 9);
        Due.is("part(0, 1, 2)", m.part(0, 1, 2), 1);
        Due.is("part(0, 1, 3)", m.part(0, 1, 3), 2);
        Due.is("above", m.part(1, 2, 10), BAD);
        Due.is("below", m.part(1, 2, -1), BAD);
        Due.is("below, by which the sum would be 0", m.part(1, 0, -9), BAD);
        Due.is("from", m.part(3, 0, 1), NONE);
        Due.is("from", m.part(-1, 0, 1), NONE);
        Due.is("to", m.part(0, 3, 1), NONE);
        Due.is("NONE ahead of BAD", m.part(0, -1, 10), NONE);
        Due.is("partOf from", m.partOf(3, 0), NONE);
        Due.is("partOf from", m.partOf(-1, 0), NONE);
        Due.is("partOf to", m.partOf(0, 4), NONE);
        Due.is("partOf to", m.partOf(0, -1), NONE);
    }

    private static void promise5And12() {
        Mind m = new Mind();
        Due.is("month(3, 0, 9)", m.month(3, 0, 9), 0);
        Due.is("month(3, 1, 9)", m.month(3, 1, 9), 0);
        Due.is("DRIES", m.monthOf(3, 3), 9);
        Due.is("FLOOD", m.monthOf(3, 4), 9);
        Due.is("TOP is 0 at least", m.monthOf(3, 5), 0);
        Due.is("month(3, 1, 2)", m.month(3, 1, 2), 9);
        Due.is("month(11, 0, 5)", m.month(11, 0, 5), 0);
        Due.is("month(11, 0, 0)", m.month(11, 0, 0), 5);
        Due.is("DRIES of 0", m.monthOf(11, 3), 0);
        Due.is("TOP", m.monthOf(3, 5), 6);
        Due.is("another month's", m.monthOf(4, 5), 8);
        Due.is("month", m.month(12, 0, 0), NONE);
        Due.is("month", m.month(-1, 0, 0), NONE);
        Due.is("what", m.month(0, 2, 0), NONE);
        Due.is("NONE ahead of BAD", m.month(0, -1, 10), NONE);
        Due.is("above", m.month(0, 1, 10), BAD);
        Due.is("below", m.month(0, 0, -1), BAD);
    }

    private static void promise6And14() {
        Mind m = new Mind();
        Due.is("demand", m.demand(3, 9, 9, 99, 11, 0), 0);
        int[] due = {3, 9, 9, 99, 11, 0, 0};
        for (int what = 0; what < 7; what++) {
            Due.is("demandOf(0, " + what + ")", m.demandOf(0, what), due[what]);
        }
        int[][] bad = {{-1, 0, 1, 0, 0, 0}, {5, 0, 1, 0, 0, 0}, {0, -1, 1, 0, 0, 0}, {0, 10, 1, 0, 0, 0},
            {0, 0, 0, 0, 0, 0}, {0, 0, 10, 0, 0, 0}, {0, 0, 1, -1, 0, 0}, {0, 0, 1, 100, 0, 0},
            {0, 0, 1, 0, -1, 0}, {0, 0, 1, 0, 12, 0}, {0, 0, 1, 0, 0, -1}, {0, 0, 1, 0, 0, 12}};
        for (int[] b : bad) {
            Due.is("a bad demand", m.demand(b[0], b[1], b[2], b[3], b[4], b[5]), BAD);
        }
        for (int k = 1; k < 6; k++) {
            Due.is("demand " + k, m.demand(0, k == 5 ? 2 : 4, 1, 0, 0, 0), k);
        }
        Due.is("a seventh", m.demand(0, 0, 1, 0, 0, 0), FULL);
        Due.is("BAD ahead of FULL", m.demand(5, 0, 1, 0, 0, 0), BAD);
        int[] places = {5, 1, 2, 3, 4, 0};
        for (int k = 0; k < 6; k++) {
            Due.is("place by rank of " + k, m.demandOf(k, 6), places[k]);
        }
        Due.is("demandOf demand", m.demandOf(6, 0), NONE);
        Due.is("demandOf demand", m.demandOf(-1, 6), NONE);
        Due.is("demandOf what", m.demandOf(0, 7), NONE);
        Due.is("demandOf what", m.demandOf(0, -1), NONE);
        Due.is("told(4)", m.told(4), 6);
    }

    private static void promise7() {
        Mind m = new Mind();
        m.demand(0, 3, 2, 10, 0, 11);
        m.demand(0, 4, 2, 10, 0, 11);
        Due.is("renew RANK", m.renew(1, 0, 0), 4);
        Due.is("it goes first now", m.demandOf(1, 6), 0);
        Due.is("the other behind it", m.demandOf(0, 6), 1);
        Due.is("and is served so", m.served(0, 0, 3, 0), 1);
        Due.is("renew WANTS", m.renew(1, 1, 9), 2);
        Due.is("renew WORTH", m.renew(1, 2, 99), 10);
        Due.is("WANTS", m.demandOf(1, 2), 9);
        Due.is("WORTH", m.demandOf(1, 3), 99);
        int[] below = {-1, 0, -1};
        int[] above = {10, 10, 100};
        for (int what = 0; what < 3; what++) {
            Due.is("below", m.renew(1, what, below[what]), BAD);
            Due.is("above", m.renew(1, what, above[what]), BAD);
        }
        Due.is("what", m.renew(1, 3, 1), NONE);
        Due.is("what", m.renew(1, -1, 1), NONE);
        Due.is("demand", m.renew(2, 0, 1), NONE);
        Due.is("NONE ahead of BAD", m.renew(-1, 0, 10), NONE);
    }

    private static void promise8() {
        Mind m = new Mind();
        for (int k = 0; k < 6; k++) {
            m.demand(k % 5, 9 - k, k + 1, 10 * k, k, k + 1);
        }
        Due.is("drop(2)", m.drop(2), 5);
        int[] wants = {1, 2, 4, 5, 6};
        for (int k = 0; k < 5; k++) {
            Due.is("WANTS of " + k, m.demandOf(k, 2), wants[k]);
            Due.is("place by rank of " + k, m.demandOf(k, 6), 4 - k);
        }
        Due.is("gone", m.demandOf(5, 2), NONE);
        Due.is("drop of none", m.drop(5), NONE);
        Due.is("drop of none", m.drop(-1), NONE);
        Due.is("drop the last", m.drop(4), 4);
        Due.is("a new one comes behind", m.demand(0, 0, 1, 0, 0, 0), 4);
        for (int left = 4; left >= 0; left--) {
            Due.is("drop the first", m.drop(0), left);
        }
        Due.is("none left", m.drop(0), NONE);
    }
}
