/** The bounds of promises 26 to 29, and of the Terms RECORDS, REPLAYED, SURE, LEARNT. */
public final class EdgeRecordTest {
    private static final int NONE = ReservoirMind.NONE, BAD = ReservoirMind.BAD, STATE = ReservoirMind.STATE;
    private static final int FULL_UP = ReservoirMind.FULL;
    private static final long NO = ReservoirMind.NO;
    private static final int MIN = Edge.MIN, MAX = Edge.MAX;
    private static final Edge.Scene NEW = Scenes.NEW, LIVED = Scenes.LIVED, FULL = Scenes.FULL;

    public static void main(String[] args) {
        promise26();
        promise26Emptied();
        promise26Refusals();
        promise27ByTold();
        promise27BehindEachMonth();
        promise27MonthsGoRound();
        promise27AheadOfTheHorizon();
        promise27NearestState();
        promise27ByBest();
        promise27LeastStore();
        promise27Refusals();
        promise28();
        promise28LowestTerms();
        promise28ServedByRank();
        promise28Refusals();
        promise29();
        promise29NineAtMost();
        promise29MonthsGoRound();
        promise29Refusals();
        Due.end("EdgeRecordTest");
    }

    private static Edge.Scene of(int record, int... units) {
        return m -> Scenes.units(m, record, units);
    }

    private static void promise26() {
        for (int k = 0; k < 4; k++) {
            int record = k;
            for (int v : new int[] {0, 1, 8, 9}) {
                String of = "replay(" + record + ", 0, 20, ";
                Edge.changes("Promise 26, ==== 2 rows of units (0 .. 9): a first one, " + v, NEW,
                    m -> m.record(record, v), 1,
                    "count(" + (5 + record) + ")=1", of + "1, 4)=" + v);
                Edge.changes("Promise 26: units come behind a RECORD's: " + v, Edge.then(NEW, of(record, 4, 5)),
                    m -> m.record(record, v), 3, "count(" + (5 + record) + ")=3", of + "3, 4)=" + (9 + v));
            }
            Mind m = new Mind();
            for (int n = 1; n <= 24; n++) {
                Due.is("Promise 26, ==== 2 up to 24 MONTHS: how many it has", m.record(record, 9), n);
                Due.is("Promise 39: MONTHS of a RECORD", m.count(5 + record), n);
            }
            Due.is("Promise 26: FULL: 24", m.record(record, 9), FULL_UP);
            Due.is("Promise 26: emptied", m.record(record, -1), 0);
            Due.is("Promise 26: not FULL any more", m.record(record, 9), 1);
        }
    }

    private static void promise26Emptied() {
        for (int k = 0; k < 4; k++) {
            int record = k;
            Edge.keeps("Promise 26: v -1 of a RECORD that has none", NEW, m -> m.record(record, -1), 0);
            String[] rows = new String[26];
            rows[0] = "count(" + (5 + record) + ")=0";
            for (int n = 1; n <= 25; n++) {
                rows[n] = "replay(" + record + ", 0, 20, " + n + ", 4)=NO";
            }
            Edge.changes("Promise 26: v -1: it has none then, 0", FULL, m -> m.record(record, -1), 0, rows);
            Edge.changes("Promise 26: v -1: it has none then, 0", LIVED, m -> m.record(record, -1), 0, rows);
        }
    }

    private static void promise26Refusals() {
        for (int v : new int[] {0, -1, -2, 10, MAX}) {
            Edge.refuses("Promise 26: NONE, RECORDS 0 .. 3, ahead of BAD and FULL: " + v, FULL, NONE,
                (m, record) -> m.record(record, v), Edge.outside(0, 3));
        }
        for (int k = 0; k < 4; k++) {
            int record = k;
            Edge.refuses("Promise 26: BAD, units 0 .. 9", LIVED, BAD, (m, v) -> m.record(record, v), -2, 10, 11, MIN,
                MAX);
            Edge.refuses("Promise 26: BAD ahead of FULL", FULL, BAD, (m, v) -> m.record(record, v), -2, 10, MIN, MAX);
            Edge.refuses("Promise 26: FULL: 24", FULL, FULL_UP, (m, v) -> m.record(record, v), 0, 9);
        }
    }

    /** STORE, YIELDS, SPILLED, DRIED, RELEASED, the least STORE. */
    private static void replays(String place, Mind m, int record, int store, int by, int n, long... dues) {
        for (int what = 0; what < 6; what++) {
            Due.is("Promise 27, " + place + ": behind " + n + " what " + what, m.replay(record, store, by, n, what),
                dues[what]);
        }
    }

    private static void promise27ByTold() {
        for (int by = 1; by <= 20; by++) {
            Mind m = new Mind();
            m.put(0, 12);
            Scenes.units(m, 1, 9);
            int released = Math.min(by, 21);
            int rest = 21 - released;
            int spilled = Math.max(0, rest - 12);
            replays("==== 2 BY 1 .. 20: that release: " + by, m, 1, 12, by, 1, rest - spilled, -2 * spilled, spilled,
                0, released,
                Math.min(12, rest - spilled));
            Due.is("Promise 27: no more than is THERE", m.replay(1, 0, by, 1, 4), Math.min(by, 9));
        }
    }

    private static void promise27BehindEachMonth() {
        Mind m = new Mind();
        m.put(2, 5);
        m.demand(0, 0, 2, 3, 1, 2);
        m.month(1, 0, 5);
        m.month(2, 1, 7);
        Scenes.units(m, 2, 6, 0, 9, 1);
        // 6 and 6 are 12, 1 less, 3 spilled; of 8 half dries; 3 and 9 are 12, 1 less, of a TOP of 1 10 spilled; 1 and 1
        replays("==== 2 behind MONTHS n", m, 2, 6, 1, 0, 6, 0, 0, 0, 0, 6);
        replays("==== 2 behind MONTHS n", m, 2, 6, 1, 1, 8, -15, 3, 0, 1, 6);
        replays("==== 2 behind MONTHS n", m, 2, 6, 1, 2, 3, -12, 3, 4, 2, 3);
        replays("==== 2 behind MONTHS n", m, 2, 6, 1, 3, 1, -59, 13, 4, 3, 1);
        replays("==== 2 behind MONTHS n", m, 2, 6, 1, 4, 1, -59, 13, 4, 4, 1);
        Due.is("Promise 27: n beyond how many it has", m.replay(2, 6, 1, 5, 0), NO);
        replays("of a RECORD without MONTHS", m, 0, 6, 1, 0, 6, 0, 0, 0, 0, 6);
        Due.is("Promise 27: n beyond none", m.replay(0, 6, 1, 1, 0), NO);
    }

    private static void promise27MonthsGoRound() {
        Mind m = new Mind();
        m.put(0, 12);
        m.month(11, 0, 9);
        int[] units = new int[24];
        units[10] = 9;
        units[22] = 4;
        Scenes.units(m, 0, units);
        m.demand(0, 0, 1, 7, 0, 0);
        // a STORE of 0 until MONTH 10 brings 9, of which 1 goes; of 8 in MONTH 11 7 dry away, 1 goes
        replays("==== 2 MONTH 0 behind 11", m, 0, 0, 1, 10, 0, 0, 0, 0, 0, 0);
        replays("==== 2 MONTH 0 behind 11", m, 0, 0, 1, 11, 8, 0, 0, 0, 1, 0);
        replays("==== 2 MONTH 0 behind 11", m, 0, 0, 1, 12, 0, 0, 0, 7, 2, 0);
        // the second time MONTH 10 brings 4: 3 in MONTH 11, of which 2 dry away
        replays("==== 2 MONTH 0 behind 11", m, 0, 0, 1, 23, 3, 0, 0, 7, 3, 0);
        replays("==== 2 up to 24 MONTHS", m, 0, 0, 1, 24, 0, 0, 0, 9, 4, 0);
        m.record(0, -1);
        int[] other = new int[24];
        other[11] = 3;
        other[23] = 8;
        Scenes.units(m, 0, other);
        m.month(11, 0, 0);
        replays("==== 2 MONTH 12 is MONTH 0", m, 0, 0, 1, 12, 2, 0, 0, 0, 1, 0);
        replays("==== 2 MONTH 12 is MONTH 0", m, 0, 0, 1, 13, 1, 7, 0, 0, 2, 0);
        replays("==== 2 MONTH 13 is MONTH 1", m, 0, 0, 1, 14, 0, 7, 0, 0, 3, 0);
        replays("==== 2 MONTH 23 is MONTH 11", m, 0, 0, 1, 24, 7, 7, 0, 0, 4, 0);
    }

    /** TOP is 0, so nothing can be kept, and ahead of the HORIZON all that is THERE is let go. */
    private static void promise27AheadOfTheHorizon() {
        int[] units = new int[24];
        java.util.Arrays.fill(units, 1);
        for (int horizon : new int[] {1, 2, 6, 11, 12}) {
            Mind m = new Mind();
            for (int month = 0; month < 12; month++) {
                m.month(month, 1, 9);
            }
            m.demand(0, 0, 9, 5, 0, 11);
            Scenes.units(m, 3, units);
            m.put(1, 12);
            Due.is("Promise 20: while all MONTHS are ahead of the HORIZON", m.release(11, 0, 0), 1);
            m.put(1, horizon);
            long released = 0;
            long store = 8;
            for (int n = 0; n <= 24; n++) {
                String place = "Promise 27, ==== 2 RELEASE (0, if it isn't ahead of the HORIZON " + horizon + "): ";
                Due.is(place + "RELEASED behind " + n, m.replay(3, 8, 0, n, 4), released);
                Due.is(place + "the STORE behind " + n, m.replay(3, 8, 0, n, 0), store);
                released += n % 12 < horizon ? store + 1 : 0;
                store = 0;
            }
        }
    }

    /** By the STATE that is taken as much is let go as there would be by its INFLOW: what would spill, of 8 of 8. */
    private static void promise27NearestState() {
        int[][] inflows = {{1, 2, 4}, {0, 5, 9}, {4, 4, 4}, {9, 5, 0}, {3, 1, 3}, {1, 3, 3}};
        // for units 0 .. 9 the INFLOW of the STATE that is nearest, of several the least
        int[][] dues = {{1, 1, 2, 2, 4, 4, 4, 4, 4, 4}, {0, 0, 0, 5, 5, 5, 5, 5, 9, 9}, {4, 4, 4, 4, 4, 4, 4, 4, 4, 4},
            {0, 0, 0, 5, 5, 5, 5, 9, 9, 9}, {1, 1, 3, 3, 3, 3, 3, 3, 3, 3}, {1, 1, 1, 3, 3, 3, 3, 3, 3, 3}};
        for (int k = 0; k < inflows.length; k++) {
            for (int units = 0; units <= 9; units++) {
                Mind m = new Mind();
                m.put(1, 1);
                for (int state = 0; state < 3; state++) {
                    m.inflow(0, state, inflows[k][state]);
                }
                m.record(0, units);
                Due.is("Promise 27, ==== 2 the STATE of which INFLOW is nearest to " + units + " in row " + k,
                    m.replay(0, 8, 0, 1, 4), dues[k][units]);
            }
        }
        // of two MONTHS only the second one's INFLOWS say that 9 units are DRY: PARTS from DRY lead to 8 units of 9
        Mind m = new Mind();
        m.put(1, 2);
        m.inflow(1, 0, 9);
        m.inflow(1, 1, 8);
        m.inflow(1, 2, 0);
        Scenes.units(m, 0, 2, 9);
        long first = m.replay(0, 8, 0, 1, 4);
        Due.is("Promise 27: the second MONTH by its own INFLOWS", m.replay(0, 8, 0, 2, 4) - first,
            m.release(1, 8 + 2 - (int) first, 0));
    }

    /** From DRY nothing comes, so all is kept; from WET more than there is room for, so 2 can be let go. */
    private static void promise27ByBest() {
        Edge.Scene scene = m -> {
            m.put(1, 2);
            m.part(0, 1, 0);
            m.part(0, 2, 0);
            m.part(2, 0, 0);
            m.part(2, 1, 0);
            m.inflow(0, 0, 5);
            m.inflow(0, 1, 5);
            m.inflow(0, 2, 3);
            m.inflow(1, 0, 0);
            m.inflow(1, 2, 9);
            m.demand(0, 0, 2, 2, 0, 0);
            Scenes.units(m, 0, 4);
            Scenes.units(m, 1, 3);
        };
        Mind m = Edge.made(scene);
        Due.is("Promise 20: by DRY", m.release(0, 3, 0), 0);
        Due.is("Promise 20: by WET", m.release(0, 3, 2), 2);
        Edge.keeps("Promise 27: 4 is as near to 5 as to 3: of several STATES the least", scene,
            a -> a.replay(0, 3, 0, 1, 4), 0);
        Edge.keeps("Promise 27: 3 is nearest to 3", scene, a -> a.replay(1, 3, 0, 1, 4), 2);
        Edge.keeps("Promise 27: it is asked", FULL, a -> a.replay(3, 12, 20, 24, 5), 0);
    }

    private static void promise27LeastStore() {
        Mind m = new Mind();
        Scenes.units(m, 0, 0, 3, 9, 0);
        // by 2 from 4: 2, 3, 8, 6
        long[] leasts = {4, 2, 2, 2, 2};
        for (int n = 0; n <= 4; n++) {
            Due.is("Promise 27, ==== 2 the least STORE (as a MONTH began, or in the end): " + n,
                m.replay(0, 4, 2, n, 5), leasts[n]);
        }
        // by 3 from 1: 0 in the end of the first; from 8: 5, 5, 8, 5
        Due.is("Promise 27: as the first MONTH began", m.replay(0, 0, 1, 3, 5), 0);
        Due.is("Promise 27: in the end", m.replay(0, 8, 3, 1, 5), 5);
        Due.is("Promise 27: what is THERE in between is no STORE", m.replay(0, 2, 20, 1, 5), 0);
        Scenes.units(m, 1, 5, 5);
        Due.is("Promise 27: as it began, and never less", m.replay(1, 3, 2, 2, 5), 3);
        Due.is("Promise 27: it rose", m.replay(1, 3, 2, 2, 0), 8);
    }

    private static void promise27Refusals() {
        for (int k = 0; k < 6; k++) {
            int what = k;
            Edge.refuses("Promise 27: NO, RECORDS 0 .. 3", LIVED, NO, (m, v) -> m.replay(v, 0, 1, 0, what),
                Edge.outside(0, 3));
            Edge.refuses("Promise 27: NO, a STORE 0 .. CAP", LIVED, NO, (m, v) -> m.replay(0, v, 1, 0, what),
                Edge.outside(0, 7));
            Edge.refuses("Promise 27: NO, by 0 .. 20", LIVED, NO, (m, v) -> m.replay(0, 0, v, 0, what),
                Edge.outside(0, 20));
            Edge.refuses("Promise 27: NO, n 0 .. how many it has", LIVED, NO, (m, v) -> m.replay(0, 0, 0, v, what),
                Edge.outside(0, 5));
        }
        Edge.refuses("Promise 27: NO, n 0 .. 24", FULL, NO, (m, v) -> m.replay(3, 0, 1, v, 0), Edge.outside(0, 24));
        Edge.refuses("Promise 27: NO, n of an empty RECORD", LIVED, NO, (m, v) -> m.replay(3, 0, 1, v, 0),
            Edge.outside(0, 0));
        Edge.refuses("Promise 27: NO, what 0 .. 5", LIVED, NO, (m, v) -> m.replay(0, 0, 1, 5, v), Edge.outside(0, 5));
    }

    private static void sure(String place, Mind m, int record, int store, int by, int demand, long above, long below) {
        Due.is("Promise 28, ==== 2 SURE: " + place + ", above the line", m.sure(record, store, by, demand, 0), above);
        Due.is("Promise 28, ==== 2 SURE: " + place + ", below the line", m.sure(record, store, by, demand, 1), below);
    }

    /** A release of 2 of what flows in, from an empty STORE. */
    private static void promise28() {
        Mind m = new Mind();
        m.demand(0, 0, 2, 5, 0, 11);
        m.demand(0, 1, 1, 5, 2, 2);
        m.demand(0, 1, 1, 5, 3, 3);
        m.demand(2, 0, 1, 0, 5, 5);
        sure("there are no MONTHS", m, 0, 0, 2, 0, NO, NO);
        Scenes.units(m, 0, 1, 2, 2);
        sure("one unit less than wanted, then as many", m, 0, 0, 2, 0, 2, 3);
        sure("it lacks none in none", m, 0, 0, 1, 0, 0, 1);
        sure("it lacks none in any", m, 0, 2, 2, 0, 1, 1);
        sure("wanted in the last MONTH replayed", m, 0, 0, 3, 1, 0, 1);
        sure("wanted in the last MONTH replayed, all goes to the other", m, 0, 3, 3, 1, 0, 1);
        sure("wanted in the last MONTH replayed, one is left for it", m, 0, 4, 3, 1, 1, 1);
        sure("wanted in the MONTH behind the last: there are none", m, 0, 0, 3, 2, NO, NO);
        m.record(0, 9);
        sure("wanted in the last MONTH replayed now", m, 0, 0, 3, 2, 1, 1);
        sure("wanted in none of them", m, 0, 0, 3, 3, NO, NO);
        m.record(0, 0);
        m.record(0, 0);
        sure("SUMMER wants two in MONTH 5, and gets none behind another", m, 0, 0, 2, 3, 0, 1);
        sure("SUMMER wants two in MONTH 5, and gets one", m, 0, 0, 3, 3, 0, 1);
        m.renew(0, 1, 1);
        sure("SUMMER wants two in MONTH 5, and gets two", m, 0, 0, 3, 3, 1, 1);
    }

    private static void promise28LowestTerms() {
        int[][] dues = {{24, 0, 0, 1}, {24, 1, 1, 24}, {24, 2, 1, 12}, {24, 9, 3, 8}, {24, 12, 1, 2}, {24, 16, 2, 3},
            {24, 18, 3, 4},
            {24, 23, 23, 24}, {24, 24, 1, 1}, {20, 15, 3, 4}, {21, 14, 2, 3}, {23, 22, 22, 23}, {23, 23, 1, 1},
                {22, 11, 1, 2},
            {2, 2, 1, 1}, {2, 1, 1, 2}, {1, 1, 1, 1}, {1, 0, 0, 1}, {15, 10, 2, 3}, {18, 12, 2, 3}, {10, 5, 1, 2}};
        for (int[] due : dues) {
            Mind m = new Mind();
            m.demand(1, 0, 1, 5, 0, 11);
            for (int k = 0; k < due[0]; k++) {
                m.record(3, k < due[1] ? 1 : 0);
            }
            sure("a fraction in lowest terms, " + due[1] + " of " + due[0], m, 3, 0, 1, 0, due[2], due[3]);
        }
    }

    /** What it gets is what those ahead of it leave of what was RELEASED, by 0 of RELEASE. */
    private static void promise28ServedByRank() {
        Mind m = new Mind();
        m.put(1, 2);
        m.put(3, 0);
        m.demand(0, 5, 3, 5, 0, 11);
        m.demand(0, 4, 2, 5, 0, 0);
        Scenes.units(m, 0, 4, 4, 4, 4);
        // ahead of the HORIZON all is let go that is THERE and wanted: 5 or 4, then 3; behind it nothing
        sure("the second goes first", m, 0, 1, 0, 1, 1, 1);
        sure("the first gets 3 of 5, then 3 of 3", m, 0, 1, 0, 0, 1, 2);
        sure("the first gets 2 of 4, then 3 of 3", m, 0, 0, 0, 0, 1, 4);
        Edge.keeps("Promise 28: it is asked", FULL, a -> a.sure(3, 12, 20, 5, 1),
            Edge.made(FULL).sure(3, 12, 20, 5, 1));
    }

    private static void promise28Refusals() {
        Edge.Scene scene = Edge.then(LIVED, m -> m.renew(0, 0, 0));
        for (int k = 0; k < 2; k++) {
            int part = k;
            Edge.refuses("Promise 28: NO, RECORDS 0 .. 3", scene, NO, (m, v) -> m.sure(v, 0, 1, 0, part),
                Edge.outside(0, 3));
            Edge.refuses("Promise 28: NO, a STORE 0 .. CAP", scene, NO, (m, v) -> m.sure(0, v, 1, 0, part),
                Edge.outside(0, 7));
            Edge.refuses("Promise 28: NO, by 0 .. 20", scene, NO, (m, v) -> m.sure(0, 0, v, 0, part),
                Edge.outside(0, 20));
            Edge.refuses("Promise 28: NO, a DEMAND, there are 4", scene, NO, (m, v) -> m.sure(0, 0, 1, v, part),
                Edge.outside(0, 3));
            Edge.refuses("Promise 28: NO, a DEMAND, there are 6", FULL, NO, (m, v) -> m.sure(0, 0, 1, v, part),
                Edge.outside(0, 5));
            Edge.keeps("Promise 28: NO, a RECORD without MONTHS", scene, m -> m.sure(3, 0, 1, 0, part), NO);
            Edge.keeps("Promise 28: STORE CAP, by 20", scene, m -> m.sure(0, 7, 20, 0, part), part == 0 ? 3 : 5);
        }
        Edge.refuses("Promise 28: NO, part 0 .. 1", scene, NO, (m, v) -> m.sure(0, 0, 1, 0, v), Edge.outside(0, 1));
        Mind m = new Mind();
        m.record(0, 1);
        Due.is("Promise 28: NO, there are no DEMANDS", m.sure(0, 0, 1, 0, 0), NO);
    }

    private static String[] parts(int... parts) {
        String[] rows = new String[12];
        for (int k = 0; k < 9; k++) {
            rows[k] = "partOf(" + k / 3 + ", " + k % 3 + ")=" + parts[k];
        }
        for (int i = 0; i < 3; i++) {
            rows[9 + i] = "partOf(" + i + ", 3)=" + (parts[3 * i] + parts[3 * i + 1] + parts[3 * i + 2]);
        }
        return rows;
    }

    /** Units 1, 2, 4 are STATES 0, 1, 2; 0 is nearest to 1, 9 to 4; 3 is as near to 2 as to 4. */
    private static void promise29() {
        Edge.Scene nines = m -> {
            for (int k = 0; k < 9; k++) {
                m.part(k / 3, k % 3, 9);
            }
        };
        for (int k = 0; k < 9; k++) {
            int from = k / 3;
            int to = k % 3;
            int[] units = {1, 2, 4};
            int[] parts = {1, 1, 1, 1, 1, 1, 1, 1, 1};
            parts[k] = 2;
            for (int r = 0; r < 4; r++) {
                int record = r;
                Edge.changes("Promise 29, ==== 2 LEARNT: PARTS become 1, and 1 more for each two MONTHS: " + from + to,
                    Edge.then(nines, of(record, units[from], units[to])), m -> m.learn(record), 2, parts(parts));
            }
        }
        Edge.changes("Promise 29: three MONTHS are two by two twice", Edge.then(nines, of(0, 1, 2, 1)),
            m -> m.learn(0), 3,
            parts(1, 2, 1, 2, 1, 1, 1, 1, 1));
        Edge.changes("Promise 29: the STATES (as above), of several the least", Edge.then(nines, of(0, 3, 0, 9, 5)),
            m -> m.learn(0), 4, parts(1, 1, 2, 2, 1, 1, 1, 1, 2));
    }

    private static void promise29NineAtMost() {
        int[] dues = {1, 1, 2, 3, 4, 5, 6, 7, 8, 9, 9, 9, 9, 9, 9, 9, 9, 9, 9, 9, 9, 9, 9, 9, 9};
        for (int many = 2; many <= 24; many++) {
            int n = many;
            Edge.Scene scene = m -> {
                m.part(1, 1, 0);
                Scenes.units(m, 2, new int[n]);
            };
            Edge.changes("Promise 29, ==== 2 LEARNT: 9 at most, of " + n + " MONTHS", scene, m -> m.learn(2), n,
                parts(dues[n], 1, 1, 1, 1, 1, 1, 1, 1));
        }
    }

    private static void promise29MonthsGoRound() {
        Edge.Scene scene = m -> {
            m.inflow(11, 0, 9);
            m.inflow(11, 1, 5);
            m.inflow(11, 2, 0);
            int[] units = new int[13];
            Scenes.units(m, 0, units);
        };
        // 0 is DRY, but WET in MONTH 11; MONTH 12 is MONTH 0 again
        Edge.changes("Promise 29, ==== 2 MONTH 0 behind 11", scene, m -> m.learn(0), 13,
            parts(9, 1, 2, 1, 1, 1, 2, 1, 1));
        Edge.Scene second = m -> {
            m.inflow(0, 2, 0);
            m.inflow(0, 0, 4);
            int[] units = new int[13];
            java.util.Arrays.fill(units, 2);
            units[12] = 0;
            Scenes.units(m, 0, units);
        };
        Edge.changes("Promise 29, ==== 2 MONTH 12 by INFLOWS of MONTH 0", second, m -> m.learn(0), 13,
            parts(1, 1, 1, 1, 9, 2, 1, 1, 1));
    }

    private static void promise29Refusals() {
        for (Edge.Scene scene : new Edge.Scene[] {NEW, LIVED, FULL}) {
            Edge.refuses("Promise 29: NONE, RECORDS 0 .. 3", scene, NONE, Mind::learn, Edge.outside(0, 3));
        }
        for (int record = 0; record < 4; record++) {
            Edge.refuses("Promise 29: STATE: it has fewer than two: 0", NEW, STATE, Mind::learn, record);
            Edge.refuses("Promise 29: STATE: it has fewer than two: 1", Edge.then(NEW, of(record, 4)), STATE,
                Mind::learn, record);
        }
        Edge.refuses("Promise 29: STATE: PARTS are as they were", LIVED, STATE, Mind::learn, 1, 3);
    }
}
