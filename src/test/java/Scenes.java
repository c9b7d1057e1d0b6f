/** Scenes from which calls are made at their bounds. */
final class Scenes {
    /** A new object. */
    static final Edge.Scene NEW = m -> {
    };

    /**
     * Something of everything. DEMANDS 0 .. 3 have RANKS 2, 1, 2, 9, so their places are 1, 0, 2, 3; RECORDS have 5, 1,
     * 2 and 0 MONTHS; TAPES 0 .. 4 are of sorts 0 .. 4 with 3 items, TAPE 5 holds nothing. THE IMAGE is an earlier
     * state.
     */
    static final Edge.Scene LIVED = m -> {
        m.put(0, 7);
        m.put(1, 4);
        m.put(3, 5);
        m.inflow(0, 0, 0);
        m.inflow(1, 2, 6);
        m.inflow(3, 1, 3);
        m.part(0, 0, 3);
        m.part(1, 2, 0);
        m.part(2, 1, 9);
        m.month(1, 0, 2);
        m.month(2, 1, 3);
        m.month(5, 1, 9);
        m.demand(1, 2, 3, 20, 0, 11);
        m.demand(3, 1, 2, 9, 10, 3);
        m.demand(4, 2, 5, 31, 2, 2);
        m.see(2, 5, 0, m.release(2, 5, 0));
        m.plan(2, 8);
        m.book(1, 4, m.release(1, 4, 1));
        m.image();
        m.demand(2, 9, 1, 4, 0, 9);
        units(m, 0, 3, 0, 9, 1, 4);
        units(m, 1, 5);
        units(m, 2, 2, 8);
        m.see(3, 7, 2, m.release(3, 7, 2));
        m.plan(0, 5);
        m.plan(1, 1);
        m.plan(3, 1);
        m.book(0, 3, m.release(0, 3, 1));
        text(m, "c6;e4.2");
        for (int sort = 0; sort < 5; sort++) {
            m.tape(sort, sort, 3);
            m.item(sort, 1, 77L + sort);
            m.item(sort, 2, -1L);
        }
        // last of all a change, so that nothing found above can be what is found by the next call
        m.put(2, 4);
    };

    /** As many of everything as there may be; each of THE TEXT's 100 signs is c but for the last one. */
    static final Edge.Scene FULL = m -> {
        m.put(0, 12);
        m.put(1, 2);
        m.put(2, 9);
        m.put(3, 99);
        for (int k = 0; k < 6; k++) {
            m.demand(k % 5, 9 - k, 1 + k, 10 + k, 0, 11);
        }
        for (int k = 0; k < 5; k++) {
            m.see(k % 2, 12, 2, 20);
        }
        for (int k = 0; k < 8; k++) {
            m.plan(2, k);
            m.book(k, k, k);
        }
        m.image();
        for (int k = 0; k < 24; k++) {
            for (int record = 0; record < 4; record++) {
                m.record(record, (k + record) % 10);
            }
        }
        for (int k = 0; k < 99; k++) {
            m.feed('c');
        }
        m.feed('1');
        for (int tape = 0; tape < 6; tape++) {
            m.tape(tape, tape % 5, 60);
            m.item(tape, 59, 1L);
        }
    };

    private Scenes() {
    }

    static void units(Mind m, int record, int... units) {
        for (int v : units) {
            m.record(record, v);
        }
    }

    static void text(Mind m, String text) {
        for (int k = 0; k < text.length(); k++) {
            m.feed(text.charAt(k));
        }
    }
}
