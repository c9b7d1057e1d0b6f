/** Promises 15 to 18: kinds, what is wanted, what is served, a month gone through. */
public final class ServeTest {
    private static final long NO = ReservoirMind.NO;
    private static final int NONE = ReservoirMind.NONE;

    public static void main(String[] args) {
        promise15();
        promise16();
        gainsByKind();
        oneUnitIsAStep();
        servedByRank();
        promise18();
        Due.end("ServeTest");
    }

    private static Mind withKinds() {
        Mind m = new Mind();
        for (int kind = 0; kind < 5; kind++) {
            m.demand(kind, 0, 3, 21, 0, 11);
        }
        return m;
    }

    private static void promise15() {
        Mind m = withKinds();
        int[][] above = {{0}, {0, 1}, {0, 2}, {0, 1, 3}, {0, 4}};
        for (int kind = 0; kind < 5; kind++) {
            for (int k = 0; k < 5; k++) {
                int due = -12;
                for (int a : above[kind]) {
                    due = a == k ? kind : due;
                }
                Due.is("taken(" + kind + ", " + k + ")", m.taken(kind, k), due);
            }
            Due.is("k", m.taken(kind, 5), ReservoirMind.BAD);
            Due.is("k", m.taken(kind, -1), ReservoirMind.BAD);
        }
        Due.is("demand", m.taken(5, 0), NONE);
        Due.is("NONE ahead of BAD", m.taken(-1, 9), NONE);
    }

    private static void promise16() {
        Mind m = new Mind();
        m.demand(0, 0, 3, 1, 2, 6);
        m.demand(1, 0, 4, 1, 10, 1);
        m.demand(2, 0, 9, 1, 4, 9);
        m.demand(2, 0, 2, 1, 8, 5);
        m.demand(4, 0, 5, 1, 7, 7);
        m.demand(3, 0, 1, 1, 6, 5);
        int[][] due = {{0, 0, 3, 3, 3, 3, 3, 0, 0, 0, 0, 0}, {4, 4, 0, 0, 0, 0, 0, 0, 0, 0, 4, 4},
            {0, 0, 0, 0, 9, 18, 18, 18, 18, 9, 0, 0}, {2, 2, 2, 2, 2, 4, 0, 0, 4, 2, 2, 2},
            {0, 0, 0, 0, 0, 0, 0, 5, 0, 0, 0, 0}, {1, 1, 1, 1, 1, 1, 1, 1, 1, 1, 1, 1}};
        for (int d = 0; d < 6; d++) {
            for (int month = 0; month < 12; month++) {
                Due.is("wanted(" + d + ", " + month + ")", m.wanted(d, month), due[d][month]);
            }
        }
        Due.is("demand", m.wanted(6, 0), NONE);
        Due.is("demand", m.wanted(-1, 0), NONE);
        Due.is("month", m.wanted(0, 12), NONE);
        Due.is("month", m.wanted(0, -1), NONE);
    }

    private static void gainsByKind() {
        // got 0, 1, 2, 3 of 3 units with a WORTH of 21
        long[][] due = {{0, 21, 42, 63}, {-63, -21, 21, 63}, {0, 21, 42, 63}, {-63, -21, 21, 73}, {0, 21, 31, 36}};
        for (int kind = 0; kind < 5; kind++) {
            Mind m = new Mind();
            m.demand(kind, 0, 3, 21, 1, 1);
            for (int x = 0; x < 4; x++) {
                Due.is("got by kind " + kind, m.served(0, 1, x, 0), x);
                Due.is("gain by kind " + kind, m.served(0, 1, x, 1), due[kind][x]);
            }
            Due.is("no more than wanted", m.served(0, 1, Integer.MAX_VALUE, 0), 3);
            Due.is("its gain", m.served(0, 1, Integer.MAX_VALUE, 1), due[kind][3]);
            Due.is("nothing wanted", m.served(0, 0, 5, 0), 0);
            Due.is("no gain, nor a step's, where nothing is wanted", m.served(0, 0, 5, 1), 0);
        }
    }

    private static void oneUnitIsAStep() {
        Mind m = new Mind();
        m.demand(3, 0, 1, 21, 11, 11);
        Due.is("one lacking", m.served(0, 11, 0, 1), -21);
        Due.is("none lacking", m.served(0, 11, 1, 1), 31);
        m.demand(4, 1, 9, 5, 11, 11);
        Due.is("5, 2, 1 and no more", m.served(1, 11, 10, 1), 8);
        Due.is("of 9", m.served(1, 11, 10, 0), 9);
        Due.is("all of a month", m.step(11, 8, 9, 10, 5), 39);
    }

    private static void servedByRank() {
        Mind m = new Mind();
        m.demand(0, 5, 2, 10, 0, 11);
        m.demand(0, 1, 3, 10, 0, 11);
        m.demand(0, 5, 4, 10, 0, 11);
        m.demand(0, 0, 9, 10, 3, 3);
        long[] due = {2, 3, 1, 0};
        for (int d = 0; d < 4; d++) {
            Due.is("served with 6", m.served(d, 0, 6, 0), due[d]);
        }
        Due.is("in month 3 the fourth goes first", m.served(3, 3, 10, 0), 9);
        Due.is("and leaves one", m.served(1, 3, 10, 0), 1);
        Due.is("and none for the others", m.served(0, 3, 10, 0), 0);
        Due.is("demand", m.served(4, 0, 0, 0), NO);
        Due.is("demand", m.served(-1, 0, 0, 0), NO);
        Due.is("month", m.served(0, 12, 0, 0), NO);
        Due.is("month", m.served(0, -1, 0, 0), NO);
        Due.is("x", m.served(0, 0, -1, 0), NO);
        Due.is("what", m.served(0, 0, 0, 2), NO);
        Due.is("what", m.served(0, 0, 0, -1), NO);
    }

    private static void promise18() {
        Mind m = new Mind();
        m.demand(1, 0, 4, 5, 0, 11);
        m.month(2, 0, 5);
        m.month(2, 1, 6);
        m.put(2, 3);
        // 7 dry by 3: 4 and 9 are 13, 2 are released, 11 rest, TOP is 2
        long[] due = {3, 13, 2, 9, 2, 2 * 5 - 2 * 5 - 27};
        for (int what = 0; what < 6; what++) {
            Due.is("step(2, 7, 9, 2, " + what + ")", m.step(2, 7, 9, 2, what), due[what]);
        }
        long[] all = {4, 4, 4, 0, 0, 20};
        for (int what = 0; what < 6; what++) {
            Due.is("no more is released than there is", m.step(2, 8, 0, Integer.MAX_VALUE, what), all[what]);
        }
        long[] most = {0, 107, 0, 99, 8, -20 - 297};
        for (int what = 0; what < 6; what++) {
            Due.is("the greatest flow", m.step(0, 8, 99, 0, what), most[what]);
        }
        int[][] no = {{12, 0, 0, 0, 0}, {-1, 0, 0, 0, 0}, {0, 9, 0, 0, 0}, {0, -1, 0, 0, 0}, {0, 0, 100, 0, 0},
            {0, 0, -1, 0, 0}, {0, 0, 0, -1, 0}, {0, 0, 0, 0, 6}, {0, 0, 0, 0, -1}};
        for (int[] n : no) {
            Due.is("step of no such", m.step(n[0], n[1], n[2], n[3], n[4]), NO);
        }
    }
}
