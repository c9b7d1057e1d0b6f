/** Promises 30 to 35: what is seen, plans, books. */
public final class ThoughtTest {
    private static final long NO = ReservoirMind.NO;
    private static final int NONE = ReservoirMind.NONE, BAD = ReservoirMind.BAD, FULL = ReservoirMind.FULL;
    private static final int MIN = Integer.MIN_VALUE;

    public static void main(String[] args) {
        promise30();
        promise31();
        promise32();
        promise33();
        promise34();
        promise35();
        Due.end("ThoughtTest");
    }

    private static void promise30() {
        Mind m = new Mind();
        for (int k = 1; k <= 5; k++) {
            Due.is("see", m.see(5, 8, 2, 20), k);
        }
        Due.is("a sixth", m.see(0, 0, 0, 0), FULL);
        Due.is("BAD ahead of FULL", m.see(0, 0, 0, 21), BAD);
        Due.is("NONE ahead of BAD", m.see(6, 0, 0, 21), NONE);
        Due.is("store", m.see(0, 9, 0, 0), NONE);
        Due.is("store", m.see(0, -1, 0, 0), NONE);
        Due.is("state", m.see(0, 0, 3, 0), NONE);
        Due.is("state", m.see(0, 0, -1, 0), NONE);
        Due.is("month", m.see(-2, 0, 0, 0), NONE);
        Due.is("count", m.count(1), 5);
        Due.is("none then, whatever the others are", m.see(-1, MIN, MIN, MIN), 0);
        Due.is("count", m.count(1), 0);
        Due.is("r", m.see(0, 0, 0, -1), BAD);
        Due.is("see", m.see(0, 0, 0, 0), 1);
    }

    /** One month, a demand of two units worth 10: they are released while LEFT is below 10. */
    private static Mind oneMonth() {
        Mind m = new Mind();
        m.put(1, 1);
        m.demand(0, 0, 2, 10, 0, 11);
        return m;
    }

    private static void promise31() {
        Mind m = oneMonth();
        Due.is("all fit what is not seen", m.fits(0), 21);
        Due.is("the least", m.fits(1), 0);
        m.see(0, 3, 0, 2);
        Due.is("0 .. 9", m.fits(0), 10);
        Due.is("the least", m.fits(1), 0);
        Due.is("LEFT is as before", m.told(3), 3);
        m.see(-1, 0, 0, 0);
        m.see(0, 3, 0, 0);
        Due.is("10 .. 20", m.fits(0), 11);
        Due.is("the least", m.fits(1), 10);
        m.see(0, 4, 0, 2);
        Due.is("none fits both", m.fits(0), 0);
        Due.is("none", m.fits(1), -5);
        m.see(-1, 0, 0, 0);
        m.see(0, 8, 0, 2);
        Due.is("fits", m.fits(0), 10);
        m.put(0, 7);
        Due.is("a store above CAP", m.fits(0), 0);
        Due.is("a store above CAP", m.fits(1), -5);
        m.put(0, 8);
        Due.is("fits again", m.fits(0), 10);
        m.renew(0, 2, 5);
        Due.is("a worth of 5", m.fits(0), 5);
        m.put(1, 3);
        m.see(-1, 0, 0, 0);
        m.see(2, 3, 0, 2);
        Due.is("the last of three months", m.fits(0), 5);
        m.put(1, 2);
        Due.is("not ahead of the horizon any more", m.fits(0), 0);
        Due.is("what", m.fits(2), NONE);
        Due.is("what", m.fits(-1), NONE);
    }

    private static void promise32() {
        Mind m = oneMonth();
        Due.is("what", m.plan(4, 0), NONE);
        Due.is("what", m.plan(-2, 0), NONE);
        Due.is("demand", m.plan(3, 1), NONE);
        Due.is("demand", m.plan(3, -1), NONE);
        Due.is("CAP", m.plan(0, 0), BAD);
        Due.is("CAP", m.plan(0, 13), BAD);
        Due.is("DRIES", m.plan(1, 10), BAD);
        Due.is("DRIES", m.plan(1, -1), BAD);
        Due.is("HARM", m.plan(2, 10), BAD);
        Due.is("HARM", m.plan(2, -1), BAD);
        Due.is("count", m.count(2), 0);
        int[][] rows = {{0, 1}, {0, 12}, {1, 0}, {1, 9}, {2, 0}, {2, 9}, {3, 0}, {3, 0}};
        for (int k = 0; k < 8; k++) {
            Due.is("plan", m.plan(rows[k][0], rows[k][1]), k + 1);
        }
        Due.is("a ninth", m.plan(0, 1), FULL);
        Due.is("BAD ahead of FULL", m.plan(0, 13), BAD);
        Due.is("NONE ahead of FULL", m.plan(3, 1), NONE);
        Due.is("empty then", m.plan(-1, MIN), 0);
        Due.is("count", m.count(2), 0);
    }

    private static void promise33() {
        Mind m = oneMonth();
        Due.is("an empty plan", m.ends(8, 2), m.best(0, 8, 2));
        Due.is("2 of 10, 8 of 3, 2 spilled or let go", m.ends(8, 2), Due.bits(44f));
        m.plan(0, 2);
        // store 2 and 4 are 6: 2 of 10, 2 of 3, the rest let go
        Due.is("a CAP of 2, a store of 2", m.ends(8, 2), Due.bits(26f));
        Due.is("the same as from 2", m.ends(8, 2), m.ends(2, 2));
        m.plan(3, 0);
        Due.is("without the demand", m.ends(8, 2), Due.bits(6f));
        Due.is("all is as before", m.best(0, 8, 2), Due.bits(44f));
        m.plan(0, 12);
        Due.is("the last CAP stands", m.ends(8, 2), Due.bits(36f));
        m.plan(1, 5);
        Due.is("half dries away", m.ends(8, 2), Due.bits(24f));
        Due.is("DRIES is as before", m.monthOf(0, 3), 0);
        m.plan(-1, 0);
        m.plan(2, 9);
        m.put(0, 1);
        m.month(0, 1, 9);
        m.inflow(0, 2, 9);
        Due.is("what is let go does no harm", m.ends(1, 2), Due.bits(20f));
        m.put(0, 12);
        m.month(0, 1, 9);
        m.month(0, 0, 0);
        // 12 and 9 are 21: 20 are let go at most, 3 are kept
        Due.is("by a harm of 9", m.ends(12, 2), Due.bits(29f));
        numbersAreKept();
        Mind n = new Mind();
        Due.is("store", n.ends(9, 0), NO);
        Due.is("store", n.ends(-1, 0), NO);
        Due.is("state", n.ends(0, 3), NO);
        Due.is("state", n.ends(0, -1), NO);
        n.plan(0, 12);
        Due.is("store by CAP as it is now", n.ends(9, 0), NO);
    }

    private static void numbersAreKept() {
        Mind m = new Mind();
        m.put(1, 1);
        m.put(3, 0);
        m.demand(0, 0, 1, 1, 0, 11);
        m.demand(0, 0, 1, 10, 0, 11);
        m.demand(0, 0, 1, 50, 0, 11);
        m.plan(3, 0);
        m.plan(3, 1);
        Due.is("demand 2 is left", m.ends(8, 0), Due.bits(50f));
        m.plan(3, 1);
        Due.is("none already", m.ends(8, 0), Due.bits(50f));
        m.plan(3, 2);
        Due.is("no demand is left", m.ends(8, 0), Due.bits(0f));
        m.plan(-1, 0);
        m.plan(3, 2);
        m.drop(2);
        Due.is("one that there isn't any more", m.ends(8, 0), Due.bits(11f));
    }

    private static void promise34() {
        Mind m = new Mind();
        Due.is("month", m.book(12, 0, 0), NONE);
        Due.is("month", m.book(-2, 0, 0), NONE);
        Due.is("NONE ahead of BAD", m.book(12, 13, 0), NONE);
        Due.is("store", m.book(0, 13, 0), BAD);
        Due.is("store", m.book(0, -1, 0), BAD);
        Due.is("r", m.book(0, 0, 21), BAD);
        Due.is("r", m.book(0, 0, -1), BAD);
        for (int k = 1; k <= 8; k++) {
            Due.is("whether or not it is ahead, or above CAP", m.book(11, 12, 20), k);
        }
        Due.is("a ninth", m.book(0, 0, 0), FULL);
        Due.is("BAD ahead of FULL", m.book(0, 0, 21), BAD);
        Due.is("empty then", m.book(-1, MIN, MIN), 0);
        Due.is("count", m.count(3), 0);
    }

    private static void promise35() {
        Mind m = oneMonth();
        Due.is("an empty book", m.looked(), -5);
        m.book(0, 5, 2);
        Due.is("one row", m.looked(), -5);
        m.book(0, 0, 2);
        m.book(0, 8, 2);
        Due.is("all as now", m.looked(), -5);
        m.put(3, 11);
        Due.is("kept now", m.looked(), 0);
        m.put(3, 3);
        m.put(0, 7);
        Due.is("a store above CAP", m.looked(), 2);
        m.put(0, 8);
        m.book(1, 5, 0);
        Due.is("not ahead of the horizon", m.looked(), 3);
        m.put(1, 2);
        Due.holds("ahead of it now", m.looked() != 1 || m.release(0, 0, 1) != 2);
        m.book(-1, 0, 0);
        m.book(1, 5, 2);
        Due.is("by state 1", m.looked(), -5);
        m.book(1, 8, 3);
        Due.is("the number of the first", m.looked(), 1);
    }
}
