/** Promises 26 to 29: records, replays, how sure a demand is, parts learnt. */
public final class RecordTest {
    private static final long NO = ReservoirMind.NO;
    private static final int NONE = ReservoirMind.NONE;

    public static void main(String[] args) {
        promise26();
        replayByTold();
        twoYears();
        onANewObject();
        replayByBest();
        replayRefusals();
        promise28();
        promise29();
        Due.end("RecordTest");
    }

    private static void promise26() {
        Mind m = new Mind();
        for (int record = 0; record < 4; record++) {
            for (int k = 1; k <= 24; k++) {
                Due.is("record", m.record(record, k % 10), k);
            }
            Due.is("a 25th", m.record(record, 0), ReservoirMind.FULL);
            Due.is("BAD ahead of FULL", m.record(record, 10), ReservoirMind.BAD);
            Due.is("count", m.count(5 + record), 24);
            Due.is("none then", m.record(record, -1), 0);
            Due.is("count", m.count(5 + record), 0);
        }
        Due.is("below", m.record(0, -2), ReservoirMind.BAD);
        Due.is("record", m.record(4, 0), NONE);
        Due.is("record", m.record(-1, 0), NONE);
        Due.is("NONE ahead of BAD", m.record(4, 10), NONE);
        Due.is("no such is not emptied", m.record(4, -1), NONE);
    }

    private static void all(Mind m, String call, int[] a, long... due) {
        for (int what = 0; what < 6; what++) {
            Due.is(call + " " + what, m.replay(a[0], a[1], a[2], a[3], what), due[what]);
        }
    }

    private static void replayByTold() {
        Mind m = new Mind();
        m.demand(0, 0, 1, 10, 0, 11);
        m.month(1, 0, 5);
        m.month(2, 1, 6);
        Due.records(m, 3, 2, 9, 4);
        // 5 + 2 - 2 = 5; 2 dry, 3 + 9 - 2 = 10, 2 spilled: 8; 8 + 4 - 2 = 10, 8 spilled: 2
        all(m, "behind 0", new int[] {3, 5, 2, 0}, 5, 0, 0, 0, 0, 5);
        all(m, "behind 1", new int[] {3, 5, 2, 1}, 5, 10, 0, 0, 2, 5);
        all(m, "behind 2", new int[] {3, 5, 2, 2}, 8, 16, 2, 2, 4, 5);
        all(m, "behind 3", new int[] {3, 5, 2, 3}, 2, 10, 10, 2, 6, 2);
        all(m, "no more than there is", new int[] {3, 0, 20, 3}, 0, 30, 0, 0, 15, 0);
        int[] year = new int[24];
        m.month(2, 1, 0);
        m.month(1, 0, 0);
        m.month(0, 0, 9);
        Due.records(m, 0, year);
        all(m, "month 0 comes again behind 11", new int[] {0, 8, 1, 13}, 0, 10, 0, 7, 1, 0);
        Due.records(m, 0, 0, 0, 0, 0, 0, 0, 0, 0, 0, 0, 9, 0, 0, 0);
        // 8 behind month 10, 7 behind 11, of which 6 dry away in month 0
        all(m, "month 12 is month 0", new int[] {0, 0, 1, 12}, 7, 20, 0, 0, 2, 0);
        all(m, "month 12 is month 0", new int[] {0, 0, 1, 13}, 0, 30, 0, 6, 3, 0);
    }

    private static void twoYears() {
        Mind m = new Mind();
        m.put(0, 12);
        int[] year = new int[24];
        year[23] = 7;
        Due.records(m, 2, year);
        m.demand(0, 0, 1, 3, 11, 11);
        all(m, "behind 23", new int[] {2, 12, 1, 23}, 0, 3, 0, 0, 12, 0);
        all(m, "behind 24", new int[] {2, 12, 1, 24}, 6, 6, 0, 0, 13, 0);
        Due.is("wanted twice, had twice", m.sure(2, 12, 1, 0, 0), 1);
        Due.is("wanted twice, had twice", m.sure(2, 12, 1, 0, 1), 1);
        Due.is("wanted twice, had once", m.sure(2, 11, 1, 0, 0), 1);
        Due.is("wanted twice, had once", m.sure(2, 11, 1, 0, 1), 2);
        Due.records(m, 3, 0, 9, 9);
        all(m, "least behind the first", new int[] {3, 3, 3, 2}, 6, 0, 0, 0, 6, 0);
    }

    /** Nothing has been found ahead of the first replay. */
    private static void onANewObject() {
        Mind m = new Mind();
        m.put(1, 1);
        Due.records(m, 0, 4);
        m.demand(0, 0, 2, 50, 0, 11);
        Due.is("two are let go", m.replay(0, 3, 0, 1, 4), 2);
        m.renew(0, 1, 5);
        Due.is("five are let go", m.sure(0, 3, 0, 0, 0), 1);
        int[] year = new int[24];
        Due.records(m, 1, year);
        m.renew(0, 1, 1);
        Due.is("8 of 24", m.sure(1, 8, 1, 0, 0), 1);
        Due.is("8 of 24", m.sure(1, 8, 1, 0, 1), 3);
        m.record(1, -1);
        m.record(1, 1);
        m.record(1, 0);
        Due.is("1 of 2, whatever stood behind them", m.sure(1, 0, 1, 0, 1), 2);
    }

    private static void replayByBest() {
        Mind m = new Mind();
        m.put(1, 2);
        m.put(3, 0);
        m.demand(0, 0, 3, 10, 0, 11);
        m.inflow(0, 0, 5);
        m.inflow(0, 1, 5);
        m.inflow(0, 2, 0);
        Due.records(m, 0, 3, 3, 3, 3);
        Due.is("release in month 0 by dry", m.release(0, 0, 0), 3);
        long first = m.replay(0, 0, 0, 1, 4);
        Due.is("nearest to 3 is 5, of several the least", first, m.release(0, 0, 0));
        Due.is("in month 1 it is mean", m.replay(0, 0, 0, 2, 4) - first, m.release(1, 0, 1));
        Due.is("beyond the horizon nothing is released", m.replay(0, 0, 0, 4, 4), m.replay(0, 0, 0, 2, 4));
        m.inflow(1, 0, 4);
        m.inflow(1, 1, 2);
        m.demand(0, 0, 9, 9, 1, 1);
        Due.is("in month 1 it is dry now, which lets more go", m.release(1, 3, 0) > m.release(1, 0, 1) ? 1 : 0, 1);
        Due.is("least state", m.replay(0, 3, 0, 2, 4), m.release(0, 3, 0) + Math.min(m.release(1, 3, 0), 6));
        Due.records(m, 1, new int[14]);
        Due.holds("a second year goes by months 0, 1 again", m.replay(1, 8, 0, 14, 0) >= 0);
    }

    private static void replayRefusals() {
        Mind m = new Mind();
        Due.records(m, 1, 4, 4);
        int[][] no = {{4, 0, 0, 0, 0}, {-1, 0, 0, 0, 0}, {1, 9, 0, 0, 0}, {1, -1, 0, 0, 0}, {1, 0, 21, 0, 0},
            {1, 0, -1, 0, 0}, {1, 0, 0, 3, 0}, {1, 0, 0, -1, 0}, {0, 0, 0, 1, 0}, {1, 0, 0, 0, 6}, {1, 0, 0, 0, -1}};
        for (int[] n : no) {
            Due.is("replay of no such", m.replay(n[0], n[1], n[2], n[3], n[4]), NO);
        }
        Due.is("an empty one", m.replay(0, 4, 0, 0, 0), 4);
    }

    private static void promise28() {
        Mind m = new Mind();
        m.demand(0, 0, 2, 10, 0, 5);
        m.demand(0, 1, 2, 10, 0, 11);
        m.demand(0, 1, 2, 10, 9, 9);
        Due.records(m, 0, 4, 4, 2, 2, 0, 0, 2, 0);
        // released with told 4 from an empty store: 4 4 2 2 0 0 2 0
        Due.is("first: 4 of 6, above", m.sure(0, 0, 4, 0, 0), 2);
        Due.is("first: 4 of 6, below", m.sure(0, 0, 4, 0, 1), 3);
        Due.is("second: 3 of 8, above", m.sure(0, 0, 4, 1, 0), 3);
        Due.is("second: 3 of 8, below", m.sure(0, 0, 4, 1, 1), 8);
        Due.is("none in which any is wanted", m.sure(0, 0, 4, 2, 0), NO);
        Due.is("none in which any is wanted", m.sure(0, 0, 4, 2, 1), NO);
        Due.is("never: 0", m.sure(0, 0, 1, 0, 0), 0);
        Due.is("never: of 1", m.sure(0, 0, 1, 0, 1), 1);
        Due.records(m, 1, 9);
        Due.is("always: 1", m.sure(1, 0, 20, 0, 0), 1);
        Due.is("always: of 1", m.sure(1, 0, 20, 0, 1), 1);
        Due.is("a record without months", m.sure(2, 0, 1, 0, 0), NO);
        int[][] no = {{4, 0, 0, 0, 0}, {-1, 0, 0, 0, 0}, {0, 9, 0, 0, 0}, {0, -1, 0, 0, 0}, {0, 0, 21, 0, 0},
            {0, 0, -1, 0, 0}, {0, 0, 0, 3, 0}, {0, 0, 0, -1, 0}, {0, 0, 0, 0, 2}, {0, 0, 0, 0, -1}};
        for (int[] n : no) {
            Due.is("sure of no such", m.sure(n[0], n[1], n[2], n[3], n[4]), NO);
        }
    }

    private static void promise29() {
        Mind m = new Mind();
        m.part(0, 0, 9);
        Due.is("no months", m.learn(0), ReservoirMind.STATE);
        m.record(0, 1);
        Due.is("one month", m.learn(0), ReservoirMind.STATE);
        Due.is("parts are as before", m.partOf(0, 0), 9);
        Due.records(m, 0, 0, 1, 2, 3, 9, 4, 0);
        // states 0 0 1 1 2 2 0: 3 is as near to 2 as to 4, and mean is the least
        Due.is("learn", m.learn(0), 7);
        int[] due = {2, 2, 1, 1, 2, 2, 2, 1, 2};
        for (int k = 0; k < 9; k++) {
            Due.is("part " + k, m.partOf(k / 3, k % 3), due[k]);
        }
        Due.records(m, 1, new int[24]);
        Due.is("learn", m.learn(1), 24);
        Due.is("9 at most", m.partOf(0, 0), 9);
        Due.is("others 1", m.partOf(2, 2), 1);
        Due.is("others 1", m.partOf(0, 1), 1);
        m.inflow(1, 0, 9);
        Due.records(m, 1, 1, 1);
        m.learn(1);
        Due.is("by inflows of each month", m.partOf(0, 1), 2);
        Due.is("by inflows of each month", m.partOf(0, 0), 1);
        Due.records(m, 3, 9, 9, 9);
        Due.is("the last record", m.learn(3), 3);
        Due.is("record", m.learn(4), NONE);
        Due.is("record", m.learn(-1), NONE);
    }
}
