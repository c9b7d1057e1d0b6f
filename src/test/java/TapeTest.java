/** Promises 36 to 43: judging, the image, how many there are, tapes. */
public final class TapeTest {
    private static final long NO = ReservoirMind.NO;
    private static final int NONE = ReservoirMind.NONE, BAD = ReservoirMind.BAD, STATE = ReservoirMind.STATE;
    private static final int NOTHING = -11, CAST = -12, PLACE = -13, SIZE = -14;
    private static final int MAX = Integer.MAX_VALUE, MIN = Integer.MIN_VALUE;

    public static void main(String[] args) {
        promise36();
        promise37And38();
        promise39();
        promise40();
        promise41And42();
        promise43();
        Due.end("TapeTest");
    }

    private static void promise36() {
        Mind m = new Mind();
        Due.records(m, 0, 3, 4, 0);
        // by a told release of 2 from a store of 1: 1, 2, 4, 2
        m.tape(1, 3, 6);
        long[] stores = {9, 1, 2, 4, 2, 9};
        for (int k = 0; k < 6; k++) {
            m.item(1, k, stores[k]);
        }
        Due.is("all as told", m.judge(0, 1, 2, 1, 1), -5);
        Due.is("the first is otherwise", m.judge(0, 1, 2, 1, 0), 0);
        Due.is("by another release", m.judge(0, 1, 1, 1, 1), 1);
        Due.is("the row ends", m.judge(0, 2, 2, 1, 4), 1);
        m.item(1, 4, 3L);
        Due.is("the last is otherwise", m.judge(0, 1, 2, 1, 1), 3);
        m.item(1, 4, 2L + (1L << 32));
        Due.is("longs are whole", m.judge(0, 1, 2, 1, 1), 3);
        m.tape(1, 3, 3);
        m.item(1, 0, 1L);
        m.item(1, 1, 2L);
        m.item(1, 2, 4L);
        Due.is("the row ends ahead of the last", m.judge(0, 1, 2, 1, 0), 103);
        Due.is("the row ends at once", m.judge(0, 1, 2, 1, 3), 100);
        Due.is("far beyond its end", m.judge(0, 1, 2, 1, MAX), 100);
        Due.is("a place below 0", m.judge(0, 1, 2, 1, -1), 100);
        Due.is("a place far below 0", m.judge(0, 1, 2, 1, MIN), 100);
        Due.is("the tape holds nothing", m.judge(0, 1, 2, 0, 0), 100);
        Due.is("a record without months has one store", m.judge(3, 1, 2, 1, 0), -5);
        for (int sort : new int[] {0, 1, 2, 4}) {
            m.tape(2, sort, 10);
            Due.is("no row of longs", m.judge(0, 1, 2, 2, 0), CAST);
            Due.is("no row of longs, ahead of the place", m.judge(0, 1, 2, 2, -1), CAST);
        }
        int[][] none = {{4, 0, 0, 0}, {-1, 0, 0, 0}, {0, 9, 0, 0}, {0, -1, 0, 0}, {0, 0, 21, 0}, {0, 0, -1, 0},
            {0, 0, 0, 6}, {0, 0, 0, -1}, {4, 0, 0, 2}};
        for (int[] n : none) {
            Due.is("judge of no such", m.judge(n[0], n[1], n[2], n[3], 0), NONE);
        }
    }

    private static void promise37And38() {
        Mind m = new Mind();
        Due.is("no image", m.undo(), STATE);
        m.demand(0, 3, 2, 10, 0, 11);
        m.demand(1, 2, 2, 10, 0, 11);
        m.see(0, 0, 0, 0);
        m.plan(2, 2);
        m.book(0, 0, 0);
        m.record(0, 5);
        long best = m.best(0, 4, 1);
        Due.is("image", m.image(), 2);
        m.put(0, 3);
        m.put(1, 2);
        m.put(2, 9);
        m.put(3, 50);
        m.inflow(3, 1, 9);
        m.inflow(11, 2, 9);
        m.part(1, 2, 9);
        m.part(2, 2, 9);
        m.month(4, 0, 9);
        m.month(4, 1, 9);
        m.renew(0, 0, 0);
        m.drop(1);
        m.demand(4, 9, 9, 99, 3, 3);
        m.demand(4, 9, 9, 99, 3, 3);
        m.see(-1, 0, 0, 0);
        m.plan(3, 0);
        m.book(1, 0, 0);
        m.record(0, 6);
        m.feed('c');
        m.tape(0, 3, 4);
        Due.is("undo", m.undo(), 2);
        int[] told = {8, 6, 2, 3, 2};
        for (int what = 0; what < 5; what++) {
            Due.is("told(" + what + ")", m.told(what), told[what]);
        }
        Due.is("INFLOW", m.monthOf(3, 1), 2);
        Due.is("DRIES", m.monthOf(4, 3), 0);
        Due.is("FLOOD", m.monthOf(4, 4), 0);
        Due.is("INFLOW", m.monthOf(11, 2), 4);
        Due.is("PARTS", m.partOf(1, 3), 3);
        Due.is("PARTS", m.partOf(2, 3), 3);
        Due.is("a demand", m.demandOf(1, 0), 1);
        Due.is("its place", m.demandOf(1, 6), 0);
        Due.is("the other's place", m.demandOf(0, 6), 1);
        Due.is("SEEN", m.count(1), 1);
        Due.is("PLAN", m.count(2), 1);
        Due.is("BOOK", m.count(3), 1);
        Due.is("best", m.best(0, 4, 1), best);
        Due.is("records are not of it", m.count(5), 2);
        Due.is("the text is not of it", m.count(4), 1);
        Due.is("tapes are not of it", m.peek(0, 3), 0);
        m.drop(0);
        Due.is("undo again", m.undo(), 2);
        m.drop(0);
        m.drop(0);
        Due.is("another image", m.image(), 0);
        m.demand(0, 0, 1, 1, 0, 0);
        Due.is("undo to that", m.undo(), 0);
    }

    private static void promise39() {
        Mind m = new Mind();
        m.demand(0, 0, 1, 1, 0, 0);
        for (int k = 0; k < 5; k++) {
            m.record(k % 4, 1);
            m.book(k, 0, 0);
            m.feed(1);
        }
        m.see(0, 0, 0, 0);
        m.see(0, 0, 0, 0);
        m.plan(0, 1);
        m.plan(0, 1);
        m.plan(0, 1);
        int[] due = {1, 2, 3, 5, 5, 2, 1, 1, 1};
        for (int what = 0; what < 9; what++) {
            Due.is("count(" + what + ")", m.count(what), due[what]);
        }
        for (int what : new int[] {-1, 9, MAX, MIN}) {
            Due.is("count of no such", m.count(what), BAD);
        }
    }

    private static void promise40() {
        Mind m = new Mind();
        Due.is("tape", m.tape(6, 0, 1), NONE);
        Due.is("tape", m.tape(-1, 9, 99), NONE);
        Due.is("sort", m.tape(0, 5, 1), BAD);
        Due.is("sort", m.tape(0, -2, -1), BAD);
        Due.is("n", m.tape(0, 0, 61), BAD);
        Due.is("n", m.tape(0, 0, -1), SIZE);
        Due.is("n", m.tape(0, 4, MIN), SIZE);
        Due.is("nothing there", m.item(0, 0, 0L), NOTHING);
        Due.is("60", m.tape(5, 3, 60), 1);
        Due.is("the last", m.item(5, 59, 7L), 1);
        Due.is("refused", m.tape(5, 3, 61), BAD);
        Due.is("it is as before", m.peek(5, 59), 7);
        Due.is("anew", m.tape(5, 3, 60), 1);
        Due.is("all 0", m.peek(5, 59), 0);
        Due.is("of 0", m.tape(5, 3, 0), 1);
        Due.is("no place", m.item(5, 0, 0L), PLACE);
        Due.is("nothing, n does not matter", m.tape(5, -1, MIN), 1);
        Due.is("nothing, n does not matter", m.tape(5, -1, MAX), 1);
        Due.is("nothing there", m.item(5, 0, 0L), NOTHING);
        Due.is("nothing to see", m.peek(5, 0), NO);
        m.tape(4, 0, 2);
        m.item(4, 0, 9L);
        m.tape(4, 0, 2);
        Due.is("all 0", m.peek(4, 0), 0);
    }

    private static void promise41And42() {
        Mind m = new Mind();
        long v = 0x1234_5678_9ABC_DEF0L;
        long[] due = {(byte) v, (short) v, (int) v, v, 1};
        long[] high = {0, 0, 0, 1L << 40, 1};
        for (int sort = 0; sort < 5; sort++) {
            m.tape(sort, sort, 3);
            Due.is("item", m.item(sort, 1, v), 1);
            Due.is("peek", m.peek(sort, 1), due[sort]);
            Due.is("others are 0", m.peek(sort, 0) + m.peek(sort, 2), 0);
            m.item(sort, 1, 1L << 40);
            Due.is("lowest bits alone", m.peek(sort, 1), high[sort]);
            m.item(sort, 1, -1L);
            Due.is("-1", m.peek(sort, 1), sort == 4 ? 1 : -1);
            m.item(sort, 1, 0L);
            Due.is("0", m.peek(sort, 1), 0);
            for (int i : new int[] {-1, 3, MAX, MIN}) {
                Due.is("no such place", m.item(sort, i, 1L), PLACE);
                Due.is("no such place", m.peek(sort, i), NO);
            }
        }
        m.tape(3, 3, 1);
        m.item(3, 0, Long.MIN_VALUE + 1);
        Due.is("a long near the end", m.peek(3, 0), Long.MIN_VALUE + 1);
        Due.is("tape", m.item(6, 0, 1L), NONE);
        Due.is("tape", m.item(-1, 0, 1L), NONE);
        Due.is("NOTHING ahead of PLACE", m.item(5, -1, 1L), NOTHING);
        Due.is("tape", m.peek(6, 0), NO);
        Due.is("tape", m.peek(-1, 0), NO);
        Due.is("nothing there", m.peek(5, 0), NO);
    }

    private static Mind counted() {
        Mind m = new Mind();
        m.tape(0, 2, 6);
        m.tape(1, 2, 4);
        m.tape(2, 3, 4);
        for (int k = 0; k < 6; k++) {
            m.item(0, k, k + 1L);
        }
        return m;
    }

    private static long[] row(Mind m, int tape, int n) {
        long[] items = new long[n];
        for (int k = 0; k < n; k++) {
            items[k] = m.peek(tape, k);
        }
        return items;
    }

    private static void promise43() {
        Mind m = counted();
        Due.is("to another", m.shift(0, 2, 1, 1, 3), 3);
        Due.all("to another", row(m, 1, 4), 0, 3, 4, 5);
        Due.is("up in the same", m.shift(0, 0, 0, 1, 5), 5);
        Due.all("up in the same", row(m, 0, 6), 1, 1, 2, 3, 4, 5);
        m = counted();
        Due.is("down in the same", m.shift(0, 2, 0, 0, 4), 4);
        Due.all("down in the same", row(m, 0, 6), 3, 4, 5, 6, 5, 6);
        Due.is("none, at either's end", m.shift(0, 6, 1, 4, 0), 0);
        Due.is("one beyond the end", m.shift(0, 6, 1, 3, 1), PLACE);
        Due.is("one beyond the other's end", m.shift(0, 0, 1, 4, 1), PLACE);
        Due.is("none, beyond the end", m.shift(0, 7, 1, 0, 0), PLACE);
        Due.is("none, beyond the other's end", m.shift(0, 0, 1, 5, 0), PLACE);
        Due.is("i", m.shift(0, -1, 1, 0, 1), PLACE);
        Due.is("j", m.shift(0, 0, 1, -1, 1), PLACE);
        Due.is("n", m.shift(0, 0, 1, 0, -1), PLACE);
        Due.is("n", m.shift(0, 1, 1, 0, MAX), PLACE);
        Due.is("i", m.shift(0, MAX, 1, 0, 1), PLACE);
        Due.is("j", m.shift(0, 0, 1, MAX, MAX), PLACE);
        Due.is("n", m.shift(0, MIN, 1, MIN, MIN), PLACE);
        Due.all("as before", row(m, 1, 4), 0, 0, 0, 0);
        Due.is("unlike sorts", m.shift(0, 0, 2, 0, 1), CAST);
        Due.is("CAST ahead of PLACE", m.shift(0, -1, 2, 0, 1), CAST);
        Due.is("nothing there", m.shift(3, 0, 0, 0, 1), NOTHING);
        Due.is("nothing there", m.shift(0, 0, 3, 0, 1), NOTHING);
        Due.is("nothing in either", m.shift(3, 0, 3, 0, 0), NOTHING);
        Due.is("tape", m.shift(6, 0, 0, 0, 0), NONE);
        Due.is("tape", m.shift(0, 0, -1, 0, 0), NONE);
    }
}
