import java.util.LinkedHashMap;
import java.util.Map;

/**
 * What other calls tell of an object, by the call's words. Each of these looks is made on an object of its own, since
 * some of them change it and all of them together would be more than 512 calls.
 */
enum Look {
    TOLD {
        @Override
        void at(Mind m, Map<String, Long> told) {
            for (int what = 0; what <= 4; what++) {
                told.put("told(" + what + ")", (long) m.told(what));
            }
            for (int month = 0; month < 12; month++) {
                for (int what = 0; what < 6; what++) {
                    told.put("monthOf(" + month + ", " + what + ")", (long) m.monthOf(month, what));
                }
            }
            for (int from = 0; from < 3; from++) {
                for (int to = 0; to <= 3; to++) {
                    told.put("partOf(" + from + ", " + to + ")", (long) m.partOf(from, to));
                }
            }
            for (int demand = 0; demand < 6; demand++) {
                for (int what = 0; what <= 6; what++) {
                    told.put("demandOf(" + demand + ", " + what + ")", (long) m.demandOf(demand, what));
                }
            }
            for (int what = 0; what <= 3; what++) {
                told.put("count(" + what + ")", (long) m.count(what));
            }
        }
    },
    /** From an empty STORE with a release of 20 all that flows in is RELEASED, so the units of RECORDS can be seen. */
    RECORDS {
        @Override
        void at(Mind m, Map<String, Long> told) {
            for (int what = 4; what <= 8; what++) {
                told.put("count(" + what + ")", (long) m.count(what));
            }
            for (int record = 0; record < 4; record++) {
                for (int n = 0; n <= 25; n++) {
                    told.put("replay(" + record + ", 0, 20, " + n + ", 4)", m.replay(record, 0, 20, n, 4));
                }
            }
        }
    },
    TAPES_0_TO_2 {
        @Override
        void at(Mind m, Map<String, Long> told) {
            tapes(m, told, 0);
        }
    },
    TAPES_3_TO_5 {
        @Override
        void at(Mind m, Map<String, Long> told) {
            tapes(m, told, 3);
        }
    },
    /** What hangs on SEEN, the PLAN, the BOOK, who is SERVED, and what BEST is. */
    THOUGHT {
        @Override
        void at(Mind m, Map<String, Long> told) {
            told.put("fits(0)", (long) m.fits(0));
            told.put("fits(1)", (long) m.fits(1));
            told.put("looked()", (long) m.looked());
            for (int store = 0; store <= 12; store++) {
                for (int state = 0; state < 3; state++) {
                    String words = store + ", " + state + ")";
                    told.put("ends(" + words, m.ends(store, state));
                    told.put("best(0, " + words, m.best(0, store, state));
                    told.put("release(0, " + words, (long) m.release(0, store, state));
                }
            }
            for (int month = 0; month < 12; month++) {
                told.put("best(" + month + ", 1, 2)", m.best(month, 1, 2));
                told.put("release(" + month + ", 1, 2)", (long) m.release(month, 1, 2));
            }
            for (int demand = 0; demand < 6; demand++) {
                for (int x = 1; x <= 9; x += 2) {
                    told.put("served(" + demand + ", 2, " + x + ", 0)", m.served(demand, 2, x, 0));
                }
            }
        }
    },
    TEXT {
        @Override
        void at(Mind m, Map<String, Long> told) {
            told.put("read()", (long) m.read());
            TOLD.at(m, told);
        }
    },
    IMAGE {
        @Override
        void at(Mind m, Map<String, Long> told) {
            told.put("undo()", (long) m.undo());
            TOLD.at(m, told);
        }
    },
    IMAGE_THOUGHT {
        @Override
        void at(Mind m, Map<String, Long> told) {
            told.put("undo()", (long) m.undo());
            THOUGHT.at(m, told);
        }
    };

    abstract void at(Mind m, Map<String, Long> told);

    Map<String, Long> of(Mind m) {
        Map<String, Long> told = new LinkedHashMap<>();
        at(m, told);
        return told;
    }

    /** Items, then what the first one becomes by a long of many bits, which tells the sort. */
    private static void tapes(Mind m, Map<String, Long> told, int first) {
        for (int tape = first; tape < first + 3; tape++) {
            for (int i = 0; i <= 60; i++) {
                told.put("peek(" + tape + ", " + i + ")", m.peek(tape, i));
            }
            told.put("then item(" + tape + ", 0, ..)", (long) m.item(tape, 0, 0x1234_5678_9ABC_DEF0L));
            told.put("then peek(" + tape + ", 0)", m.peek(tape, 0));
        }
    }
}
