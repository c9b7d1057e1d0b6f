import java.util.ArrayList;
import java.util.List;
import java.util.Map;

/** The bounds of promises 36 to 43, and of the Terms TAPES, JUDGED, THE IMAGE, the host's refusals, 512 calls. */
public final class EdgeTapeTest {
    private static final int NONE = ReservoirMind.NONE, BAD = ReservoirMind.BAD, STATE = ReservoirMind.STATE;
    private static final long NO = ReservoirMind.NO;
    private static final int NOTHING = -11, CAST = -12, PLACE = -13, SIZE = -14;
    private static final int NOT_ANY = -5;
    private static final int MIN = Edge.MIN, MAX = Edge.MAX;
    private static final Edge.Scene NEW = Scenes.NEW, LIVED = Scenes.LIVED, FULL = Scenes.FULL;

    public static void main(String[] args) {
        promise36();
        promise36EachPlace();
        promise36Longs();
        promise36OfItsReplay();
        promise36Refusals();
        promise37();
        promise38();
        promise38Rows();
        promise38WhatIsNotOfIt();
        promise39();
        promise40();
        promise40Sizes();
        promise40Refusals();
        promise41();
        promise41LowestBits();
        promise41Refusals();
        promise42();
        promise42Refusals();
        promise43();
        promise43InTheSame();
        promise43Ends();
        promise43Refusals();
        promise43RefusalsInOrder();
        fiveHundredAndTwelveCalls();
        Due.end("EdgeTapeTest");
    }

    private static void row(Mind m, int tape, long... items) {
        m.tape(tape, 3, items.length);
        for (int i = 0; i < items.length; i++) {
            m.item(tape, i, items[i]);
        }
    }

    private static void judged(String place, Edge.Scene scene, int by, int i, int due) {
        Edge.keeps("Promise 36, ==== 3 JUDGED: " + place, scene, m -> m.judge(0, 1, by, 0, i), due);
    }

    /** By a release of 2 from a STORE of 1: 1, 2, 4, 2. */
    private static Edge.Scene told(long... items) {
        return m -> {
            Scenes.units(m, 0, 3, 4, 0);
            row(m, 0, items);
        };
    }

    private static void promise36() {
        judged("all of them", told(1, 2, 4, 2), 2, 0, NOT_ANY);
        judged("all of them, and more behind", told(1, 2, 4, 2, 9), 2, 0, NOT_ANY);
        judged("from a place on", told(7, 1, 2, 4, 2), 2, 1, NOT_ANY);
        judged("from a place on, 1 too early", told(7, 1, 2, 4, 2), 2, 0, 0);
        judged("from a place on, 1 too late", told(7, 1, 2, 4, 2), 2, 2, 0);
        judged("the number of the first that is otherwise: 0", told(2, 2, 4, 2), 2, 0, 0);
        judged("the number of the first that is otherwise: 1", told(1, 1, 4, 2), 2, 0, 1);
        judged("the number of the first that is otherwise: 2", told(1, 2, 5, 2), 2, 0, 2);
        judged("the number of the first that is otherwise: the last one", told(1, 2, 4, 3), 2, 0, 3);
        judged("the first of two that are otherwise", told(1, 0, 4, 0), 2, 0, 1);
        judged("by another release it is otherwise", told(1, 2, 4, 2), 3, 0, 1);
        judged("it is otherwise ahead of the row's end", told(1, 3), 2, 0, 1);
        judged("it is otherwise at the row's end", told(1, 2, 5), 2, 0, 2);
        Edge.Scene none = m -> row(m, 0, 5, 6);
        Edge.keeps("Promise 36: of no MONTHS the STORE alone", none, m -> m.judge(0, 5, 1, 0, 0), NOT_ANY);
        Edge.keeps("Promise 36: of no MONTHS the STORE alone", none, m -> m.judge(0, 6, 1, 0, 0), 0);
        Edge.keeps("Promise 36: of no MONTHS, the last item", none, m -> m.judge(0, 6, 1, 0, 1), NOT_ANY);
    }

    private static void promise36EachPlace() {
        judged("100 and how many were looked at, if the row ends: 3", told(1, 2, 4), 2, 0, 103);
        judged("100 and how many were looked at, if the row ends: 2", told(1, 2), 2, 0, 102);
        judged("100 and how many were looked at, if the row ends: 1", told(1), 2, 0, 101);
        judged("100 and how many were looked at, if the row ends: 0", told(), 2, 0, 100);
        judged("from the last item on", told(7, 7, 1), 2, 2, 101);
        judged("from behind the last item on", told(1, 2, 4, 2), 2, 4, 100);
        for (int i : new int[] {5, 60, MAX - 1, MAX}) {
            judged("from far behind the last item on: " + i, told(1, 2, 4, 2), 2, i, 100);
        }
        for (int i : new int[] {-1, -2, MIN}) {
            judged("the place is below 0: " + i, told(1, 2, 4, 2), 2, i, 100);
        }
        Edge.Scene gone = Edge.then(told(1, 2, 4, 2), m -> m.tape(0, -1, 0));
        for (int i : new int[] {0, 1, -1, MIN, MAX}) {
            judged("the TAPE holds nothing", gone, 2, i, 100);
        }
        long[] stores = new long[25];
        java.util.Arrays.fill(stores, 8L);
        for (int size : new int[] {23, 24, 25}) {
            Edge.Scene full = m -> {
                for (int k = 0; k < 24; k++) {
                    m.record(0, 9);
                }
                row(m, 0, java.util.Arrays.copyOf(stores, size));
            };
            Edge.keeps("Promise 36: 24 MONTHS and the last one by " + size, full, m -> m.judge(0, 8, 1, 0, 0),
                size == 25 ? NOT_ANY : 100 + size);
        }
        Edge.Scene end = m -> {
            for (int k = 0; k < 24; k++) {
                m.record(0, 9);
            }
            m.tape(0, 3, 60);
            for (int i = 35; i < 60; i++) {
                m.item(0, i, 8L);
            }
        };
        Edge.keeps("Promise 36: up to the last of 60", end, m -> m.judge(0, 8, 1, 0, 35), NOT_ANY);
        Edge.keeps("Promise 36: beyond the last of 60", end, m -> m.judge(0, 8, 1, 0, 36), 124);
        Edge.keeps("Promise 36: 0 ahead of these", end, m -> m.judge(0, 8, 1, 0, 34), 0);
    }

    private static void promise36Longs() {
        judged("a row of longs: all bits count", told(1, 2 + (1L << 32), 4, 2), 2, 0, 1);
        judged("a row of longs: all bits count", told(1, 2, 4, 2 + (1L << 63)), 2, 0, 3);
        judged("a row of longs: below 0", told(-1, 2, 4, 2), 2, 0, 0);
        for (int sort : new int[] {0, 1, 2, 4}) {
            Edge.Scene scene = m -> {
                m.tape(0, sort, 5);
                m.item(0, 0, 1L);
            };
            for (int i : new int[] {0, 4, 5, -1, MIN, MAX}) {
                Edge.keeps("Promise 36: CAST: no row of longs, but of sort " + sort, scene,
                    m -> m.judge(0, 1, 1, 0, i), CAST);
            }
            Edge.keeps("Promise 36: CAST of an empty row", m -> m.tape(0, sort, 0), m -> m.judge(0, 1, 1, 0, 0), CAST);
        }
        Edge.keeps("Promise 36: an empty row of longs", m -> m.tape(0, 3, 0), m -> m.judge(0, 1, 1, 0, 0), 100);
    }

    /** Of each RECORD, STORE, BY it is told by what REPLAY tells. */
    private static void promise36OfItsReplay() {
        for (int record = 0; record < 4; record++) {
            for (int by : new int[] {0, 1, 20}) {
                for (int store : new int[] {0, 7}) {
                    Mind m = Edge.made(LIVED);
                    int n = m.count(5 + record);
                    m.tape(5, 3, n + 1);
                    for (int k = 0; k <= n; k++) {
                        m.item(5, k, m.replay(record, store, by, k, 0));
                    }
                    Due.is("Promise 36: STORES as MONTHS begin of a REPLAY", m.judge(record, store, by, 5, 0), NOT_ANY);
                    m.item(5, n, 99L);
                    Due.is("Promise 36: and the last one", m.judge(record, store, by, 5, 0), n);
                }
            }
        }
        Mind m = new Mind();
        m.put(1, 1);
        m.demand(0, 0, 2, 50, 0, 0);
        m.record(0, 0);
        row(m, 0, 5, 3);
        Due.is("Promise 36: by RELEASE", m.judge(0, 5, 0, 0, 0), NOT_ANY);
        m.renew(0, 2, 0);
        Due.is("Promise 36: by RELEASE as it is now", m.judge(0, 5, 0, 0, 0), 1);
    }

    private static void promise36Refusals() {
        for (int tape : new int[] {0, 3, 5}) {
            Edge.refuses("Promise 36: NONE, RECORDS 0 .. 3, ahead of CAST", LIVED, NONE,
                (m, v) -> m.judge(v, 0, 1, tape, 0),
                Edge.outside(0, 3));
            Edge.refuses("Promise 36: NONE, a STORE 0 .. CAP, ahead of CAST", LIVED, NONE,
                (m, v) -> m.judge(0, v, 1, tape, 0),
                Edge.outside(0, 7));
            Edge.refuses("Promise 36: NONE, by 0 .. 20, ahead of CAST", LIVED, NONE,
                (m, v) -> m.judge(0, 0, v, tape, 0),
                Edge.outside(0, 20));
        }
        Edge.refuses("Promise 36: NONE, TAPES 0 .. 5", LIVED, NONE, (m, v) -> m.judge(0, 0, 1, v, 0),
            Edge.outside(0, 5));
        Edge.refuses("Promise 36: NONE, TAPES 0 .. 5", LIVED, NONE, (m, v) -> m.judge(0, 0, 1, v, -1),
            Edge.outside(0, 5));
        Edge.keeps("Promise 36: STORE CAP, by 20, the last TAPE", LIVED, m -> m.judge(3, 7, 20, 5, 0), 100);
    }

    /** Taken, it is what is now, and nothing else changes. */
    private static void promise37() {
        int[] sizes = {0, 4, 6};
        Edge.Scene[] scenes = {NEW, LIVED, FULL};
        for (int k = 0; k < 3; k++) {
            Edge.Scene scene = scenes[k];
            for (Look look : new Look[] {Look.TOLD, Look.RECORDS, Look.TAPES_0_TO_2, Look.TAPES_3_TO_5, Look.THOUGHT,
                Look.TEXT}) {
                Mind m = Edge.made(scene);
                Due.is("Promise 37: how many DEMANDS", m.image(), sizes[k]);
                Edge.same("Promise 37: all is as it was, then " + look, look.of(m), Edge.looked(scene, look));
            }
            Mind m = Edge.made(Edge.then(scene, Mind::image));
            Due.is("Promise 38: how many DEMANDS", m.undo(), sizes[k]);
        }
        Mind m = new Mind();
        m.image();
        m.put(0, 5);
        m.image();
        m.put(0, 6);
        m.undo();
        Due.is("Promise 37: the last one stands", m.told(0), 5);
        m.put(0, 7);
        m.undo();
        Due.is("Promise 38: it stands when it has been gone back to", m.told(0), 5);
    }

    /** From everything full back to everything new, and the other way round. */
    private static void promise38() {
        Edge.refuses("Promise 38: STATE: there is none", NEW, STATE, (m, v) -> m.undo(), 0);
        Edge.Scene full = m -> {
            m.put(3, 1);
            m.demand(1, 1, 1, 1, 1, 1);
        };
        Edge.refuses("Promise 38: STATE: there is none", full, STATE, (m, v) -> m.undo(), 0);
        for (Look look : new Look[] {Look.TOLD, Look.THOUGHT}) {
            Mind m = new Mind();
            m.image();
            FULL.set(m);
            // FULL takes an image itself, of which nothing but RECORDS, THE TEXT and TAPES is otherwise
            Due.is("Promise 38: how many DEMANDS", m.undo(), 6);
            Edge.same("Promise 38: all is as THE IMAGE, then " + look, look.of(m), Edge.looked(FULL, look));
        }
        for (Look look : new Look[] {Look.TOLD, Look.THOUGHT}) {
            Mind m = new Mind();
            m.image();
            m.put(0, 1);
            m.put(1, 12);
            m.put(2, 9);
            m.put(3, 99);
            for (int k = 0; k < 12; k++) {
                m.inflow(k, k % 3, 9);
                m.part(k % 3, k / 3 % 3, 5);
                m.month(k, k % 2, 9);
            }
            for (int k = 0; k < 6; k++) {
                m.demand(k % 5, 9 - k, 1 + k, 10 + k, 0, 11);
            }
            m.see(0, 1, 2, 20);
            m.plan(3, 5);
            m.book(0, 0, 9);
            m.best(0, 0, 0);
            m.fits(0);
            Due.is("Promise 38: how many DEMANDS", m.undo(), 0);
            Edge.same("Promise 38: all is as THE IMAGE, a new one, then " + look, look.of(m), Edge.looked(NEW, look));
        }
    }

    /** Of SEEN, the PLAN, the BOOK it isn't how many rows there are alone, but which ones. */
    private static void promise38Rows() {
        Mind m = new Mind();
        m.put(1, 1);
        m.demand(0, 0, 2, 10, 0, 11);
        m.see(0, 5, 0, 2);
        m.plan(0, 1);
        m.book(0, 5, 2);
        m.image();
        for (int n = 0; n < 2; n++) {
            Due.is("Promise 31: ahead of it", m.fits(0), 10);
            Due.is("Promise 33: ahead of it", m.ends(8, 2), Due.bits(23f));
            Due.is("Promise 35: ahead of it", m.looked(), NOT_ANY);
            m.see(-1, 0, 0, 0);
            m.see(0, 5, 0, 0);
            m.plan(-1, 0);
            m.plan(3, 0);
            m.book(-1, 0, 0);
            m.book(0, 5, 3);
            Due.is("Promise 31: other rows", m.fits(0), 11);
            Due.is("Promise 33: other rows", m.ends(8, 2), Due.bits(24f));
            Due.is("Promise 35: other rows", m.looked(), 0);
            m.undo();
            Due.is("Promise 38: SEEN is as THE IMAGE: how many fit", m.fits(0), 10);
            Due.is("Promise 38: SEEN is as THE IMAGE: the least", m.fits(1), 0);
            Due.is("Promise 38: the PLAN is as THE IMAGE", m.ends(8, 2), Due.bits(23f));
            Due.is("Promise 38: the BOOK is as THE IMAGE", m.looked(), NOT_ANY);
        }
    }

    private static void promise38WhatIsNotOfIt() {
        Edge.Scene scene = m -> {
            m.image();
            Scenes.units(m, 1, 4, 5);
            m.feed('c');
            m.feed('9');
            m.tape(2, 1, 2);
            m.item(2, 1, 300L);
        };
        for (Look look : new Look[] {Look.RECORDS, Look.TAPES_0_TO_2}) {
            Mind m = Edge.made(scene);
            m.undo();
            Edge.same("Promise 38, ==== 2 THE IMAGE: all but RECORDS, THE TEXT, TAPES: " + look, look.of(m),
                Edge.looked(scene, look));
        }
        Mind m = Edge.made(scene);
        m.undo();
        Due.is("Promise 38, ==== 2 THE IMAGE: all but THE TEXT", m.count(4), 2);
        Due.is("Promise 38: which is read", m.read(), 1);
        Due.is("Promise 38: and done", m.told(0), 9);
    }

    private static void promise39() {
        int[] lived = {4, 2, 4, 2, 7, 5, 1, 2, 0};
        int[] full = {6, 5, 8, 8, 100, 24, 24, 24, 24};
        for (int k = 0; k < 9; k++) {
            int what = k;
            Edge.keeps("Promise 39: how many of a new one: " + k, NEW, m -> m.count(what), 0);
            Edge.keeps("Promise 39: how many: " + k, LIVED, m -> m.count(what), lived[k]);
            Edge.keeps("Promise 39: how many at most: " + k, FULL, m -> m.count(what), full[k]);
        }
        for (Edge.Scene scene : new Edge.Scene[] {NEW, LIVED, FULL}) {
            Edge.refuses("Promise 39: BAD, what 0 .. 8", scene, BAD, Mind::count, Edge.outside(0, 8));
        }
    }

    private static String[] items(int tape, long first, long... items) {
        List<String> rows = new ArrayList<>();
        for (int i = 0; i <= 60; i++) {
            rows.add("peek(" + tape + ", " + i + ")=" + (i < items.length ? items[i] + "" : "NO"));
        }
        long become = items.length == 0 ? PLACE : 1;
        rows.add("then item(" + tape + ", 0, ..)=" + become);
        rows.add("then peek(" + tape + ", 0)=" + (items.length == 0 ? "NO" : first + ""));
        return rows.toArray(new String[0]);
    }

    /** What the first item becomes by 0x123456789ABCDEF0. */
    private static final long[] FIRST = {(byte) 0xF0, (short) 0xDEF0, 0x9ABCDEF0, 0x123456789ABCDEF0L, 1L};

    private static void promise40() {
        for (int tape = 0; tape < 6; tape++) {
            for (int s = 0; s < 5; s++) {
                for (int n : new int[] {0, 1, 2, 59, 60}) {
                    int k = tape;
                    int sort = s;
                    Edge.changes("Promise 40, ==== 3 TAPES: a row of n (0 .. 60) of sort " + sort + ", all 0: " + n,
                        LIVED,
                        m -> m.tape(k, sort, n), 1, items(k, FIRST[sort], new long[n]));
                }
            }
        }
        for (int tape = 0; tape < 6; tape++) {
            int k = tape;
            for (int n : new int[] {0, 61, -1, MIN, MAX}) {
                String[] rows = items(k, 0L);
                rows[61] = "then item(" + k + ", 0, ..)=" + NOTHING;
                Edge.changes("Promise 40: sort -1: n does not matter: " + n, LIVED, m -> m.tape(k, -1, n), 1, rows);
            }
        }
    }

    private static void promise40Sizes() {
        Mind m = new Mind();
        for (int n : new int[] {60, 2, 60, 0, 1}) {
            Due.is("Promise 40: a TAPE becomes a row of " + n, m.tape(1, 3, n), 1);
            for (int i = 0; i < n; i++) {
                Due.is("Promise 40: all 0, whatever it held", m.peek(1, i), 0);
                m.item(1, i, 7L + i);
            }
            Due.is("Promise 40: no more than these", m.peek(1, n), NO);
        }
    }

    private static void promise40Refusals() {
        for (int v : new int[] {0, -1, -2, 5, 61}) {
            Edge.refuses("Promise 40: NONE, TAPES 0 .. 5, ahead of BAD and SIZE: " + v, LIVED, NONE,
                (m, tape) -> m.tape(tape, v, v),
                Edge.outside(0, 5));
        }
        for (int n : new int[] {0, 60, 61, -1, MIN}) {
            Edge.refuses("Promise 40: BAD, a sort 0 .. 4 or -1, ahead of SIZE: n " + n, LIVED, BAD,
                (m, sort) -> m.tape(3, sort, n),
                -2, 5, MIN, MAX);
        }
        for (int k = 0; k < 5; k++) {
            int sort = k;
            Edge.refuses("Promise 40: BAD, n above 60", LIVED, BAD, (m, n) -> m.tape(sort, sort, n), 61, 62, MAX);
            Edge.refuses("Promise 40, ==== 3 SIZE (-14): a size below 0", LIVED, SIZE, (m, n) -> m.tape(sort, sort, n),
                -1, -2, MIN);
            Edge.refuses("Promise 40: SIZE of what holds nothing", LIVED, SIZE, (m, n) -> m.tape(5, sort, n), -1, MIN);
        }
    }

    private static void promise41() {
        for (int s = 0; s < 5; s++) {
            for (int i : new int[] {0, 1, 2}) {
                int sort = s;
                Edge.changes("Promise 41: Item i of a TAPE becomes v: " + i + " of 3 of sort " + sort, LIVED,
                    m -> m.item(sort, i, 1L), 1,
                    "peek(" + sort + ", " + i + ")=1");
            }
        }
        for (int tape = 0; tape < 6; tape++) {
            int k = tape;
            Edge.changes("Promise 41: the last of 60", FULL, m -> m.item(k, 59, 0L), 1, "peek(" + k + ", 59)=0");
        }
    }

    private static void promise41LowestBits() {
        long[][] dues = {
            {0, 0, 0, 0, 0, 0},
            {1, 1, 1, 1, 1, 1},
            {-1, -1, -1, -1, -1, 1},
            {2, 2, 2, 2, 2, 1},
            {127, 127, 127, 127, 127, 1},
            {128, -128, 128, 128, 128, 1},
            {-128, -128, -128, -128, -128, 1},
            {-129, 127, -129, -129, -129, 1},
            {255, -1, 255, 255, 255, 1},
            {256, 0, 256, 256, 256, 1},
            {32767, -1, 32767, 32767, 32767, 1},
            {32768, 0, -32768, 32768, 32768, 1},
            {-32769, -1, 32767, -32769, -32769, 1},
            {65535, -1, -1, 65535, 65535, 1},
            {65536, 0, 0, 65536, 65536, 1},
            {MAX, -1, -1, MAX, MAX, 1},
            {1L + MAX, 0, 0, MIN, 1L + MAX, 1},
            {MIN, 0, 0, MIN, MIN, 1},
            {MIN - 1L, -1, -1, MAX, MIN - 1L, 1},
            {1L << 32, 0, 0, 0, 1L << 32, 1},
            {(1L << 32) - 1, -1, -1, -1, (1L << 32) - 1, 1},
            {Long.MAX_VALUE, -1, -1, -1, Long.MAX_VALUE, 1},
            {Long.MIN_VALUE + 1, 1, 1, 1, Long.MIN_VALUE + 1, 1},
            {Long.MIN_VALUE, 0, 0, 0, Long.MIN_VALUE, 1}};
        for (long[] due : dues) {
            Mind m = Edge.made(LIVED);
            for (int sort = 0; sort < 5; sort++) {
                Due.is("Promise 41: " + due[0] + " into sort " + sort, m.item(sort, 2, due[0]), 1);
                Due.is("Promise 41: its lowest bits; booleans: whether v is not 0: " + due[0] + " of sort " + sort,
                    m.peek(sort, 2), due[1 + sort]);
            }
        }
    }

    private static void promise41Refusals() {
        for (int i : new int[] {0, 3, -1}) {
            Edge.refuses("Promise 41: NONE, TAPES 0 .. 5, ahead of PLACE", LIVED, NONE,
                (m, tape) -> m.item(tape, i, 9L),
                Edge.outside(0, 5));
        }
        Edge.refuses("Promise 41, ==== 3 NOTHING (-11): nothing is there, ahead of PLACE", LIVED, NOTHING,
            (m, i) -> m.item(5, i, 9L),
            0, 1, -1, 60, MIN, MAX);
        for (int k = 0; k < 5; k++) {
            int sort = k;
            Edge.refuses("Promise 41, ==== 3 PLACE (-13): no such place", LIVED, PLACE, (m, i) -> m.item(sort, i, 9L),
                Edge.outside(0, 2));
            Edge.refuses("Promise 41: PLACE of a row of 0", m -> m.tape(0, sort, 0), PLACE, (m, i) -> m.item(0, i, 9L),
                0, 1, -1, MAX);
            Edge.refuses("Promise 41: PLACE of 60", FULL, PLACE, (m, i) -> m.item(sort, i, 9L), Edge.outside(0, 59));
        }
    }

    private static void promise42() {
        long[] second = {77, 78, 79, 80, 1};
        long[] third = {-1, -1, -1, -1, 1};
        for (int k = 0; k < 5; k++) {
            int sort = k;
            Edge.keeps("Promise 42: Item 0 of 3", LIVED, m -> m.peek(sort, 0), 0);
            Edge.keeps("Promise 42: Item 1 of 3", LIVED, m -> m.peek(sort, 1), second[k]);
            Edge.keeps("Promise 42: Item 2 of 3", LIVED, m -> m.peek(sort, 2), third[k]);
            Edge.keeps("Promise 42: Item 59 of 60", FULL, m -> m.peek(sort, 59), 1);
        }
    }

    private static void promise42Refusals() {
        Edge.refuses("Promise 42: NO, TAPES 0 .. 5", LIVED, NO, (m, tape) -> m.peek(tape, 0), Edge.outside(0, 5));
        Edge.refuses("Promise 42: NO, nothing there", LIVED, NO, (m, i) -> m.peek(5, i), 0, 1, -1, MIN, MAX);
        for (int k = 0; k < 5; k++) {
            int sort = k;
            Edge.refuses("Promise 42: NO, no such place", LIVED, NO, (m, i) -> m.peek(sort, i), Edge.outside(0, 2));
            Edge.refuses("Promise 42: NO, no such place", FULL, NO, (m, i) -> m.peek(sort, i), Edge.outside(0, 59));
            Edge.refuses("Promise 42: NO, no place in a row of 0", m -> m.tape(0, sort, 0), NO, (m, i) -> m.peek(0, i),
                0, -1);
        }
    }

    /** TAPE 0: 1 .. 6, TAPE 1: 11 .. 14, both of ints; TAPE 2 holds as many longs, TAPE 3 is empty, TAPE 4 nothing. */
    private static final Edge.Scene ROWS = m -> {
        m.tape(0, 2, 6);
        m.tape(1, 2, 4);
        m.tape(2, 3, 6);
        m.tape(3, 2, 0);
        for (int k = 0; k < 6; k++) {
            m.item(0, k, 1L + k);
            m.item(2, k, 21L + k);
        }
        for (int k = 0; k < 4; k++) {
            m.item(1, k, 11L + k);
        }
    };

    private static void shifted(int tape, int i, int other, int j, int n, long... items) {
        String[] rows = new String[items.length];
        for (int k = 0; k < items.length; k++) {
            rows[k] = "peek(" + other + ", " + k + ")=" + items[k];
        }
        Edge.changes("Promise 43: " + n + " of TAPE " + tape + " from " + i + " on to TAPE " + other + " from " + j + " on", ROWS,
            m -> m.shift(tape, i, other, j, n), n, rows);
    }

    private static void promise43() {
        shifted(0, 0, 1, 0, 1, 1, 12, 13, 14);
        shifted(0, 5, 1, 3, 1, 11, 12, 13, 6);
        shifted(0, 2, 1, 0, 4, 3, 4, 5, 6);
        shifted(0, 0, 1, 0, 4, 1, 2, 3, 4);
        shifted(0, 1, 1, 1, 3, 11, 2, 3, 4);
        shifted(1, 0, 0, 2, 4, 1, 2, 11, 12, 13, 14);
        shifted(1, 3, 0, 0, 1, 14, 2, 3, 4, 5, 6);
        for (int sort = 0; sort < 5; sort++) {
            int s = sort;
            Edge.Scene like = m -> {
                LIVED.set(m);
                m.tape(5, s, 3);
            };
            long[] second = {77, 78, 79, 80, 1};
            Edge.changes("Promise 43: of sort " + s, like, m -> m.shift(s, 1, 5, 0, 2), 2, "peek(5, 0)=" + second[s],
                "peek(5, 1)=" + (s == 4 ? 1 : -1));
        }
        Edge.changes("Promise 43: all 60", FULL, m -> m.shift(0, 0, 5, 0, 60), 60);
        Edge.changes("Promise 43: the last of 60 to the first", FULL, m -> m.shift(0, 59, 5, 0, 1), 1, "peek(5, 0)=1");
    }

    /** "or the same": "as they all were before". */
    private static void promise43InTheSame() {
        shifted(0, 0, 0, 1, 5, 1, 1, 2, 3, 4, 5);
        shifted(0, 1, 0, 0, 5, 2, 3, 4, 5, 6, 6);
        shifted(0, 0, 0, 3, 3, 1, 2, 3, 1, 2, 3);
        shifted(0, 3, 0, 0, 3, 4, 5, 6, 4, 5, 6);
        shifted(0, 0, 0, 2, 4, 1, 2, 1, 2, 3, 4);
        shifted(0, 2, 0, 0, 4, 3, 4, 5, 6, 5, 6);
        Edge.keeps("Promise 43: to where they are", ROWS, m -> m.shift(0, 0, 0, 0, 6), 6);
        Edge.keeps("Promise 43: to where they are", ROWS, m -> m.shift(0, 2, 0, 2, 3), 3);
    }

    private static void promise43Ends() {
        Edge.keeps("Promise 43: none from the first on", ROWS, m -> m.shift(0, 0, 1, 0, 0), 0);
        Edge.keeps("Promise 43: none from both ends on", ROWS, m -> m.shift(0, 6, 1, 4, 0), 0);
        Edge.keeps("Promise 43: none of an empty row", ROWS, m -> m.shift(3, 0, 1, 4, 0), 0);
        Edge.keeps("Promise 43: none to an empty row", ROWS, m -> m.shift(0, 6, 3, 0, 0), 0);
        Edge.keeps("Promise 43: none of an empty row to itself", ROWS, m -> m.shift(3, 0, 3, 0, 0), 0);
        int[][] beyond = {{0, 7, 1, 0, 0}, {0, 0, 1, 5, 0}, {0, 6, 1, 0, 1}, {0, 5, 1, 0, 2}, {0, 0, 1, 4, 1},
            {0, 0, 1, 3, 2},
            {0, 0, 1, 0, 5}, {0, 3, 1, 0, 4}, {0, 0, 0, 1, 6}, {0, 1, 0, 0, 6}, {0, 0, 0, 0, 7}, {3, 0, 0, 0, 1},
                {0, 0, 3, 0, 1},
            {3, 1, 0, 0, 0}, {0, 0, 3, 1, 0}};
        for (int[] b : beyond) {
            Edge.keeps("Promise 43: PLACE, beyond either's end: " + b[1] + " " + b[3] + " " + b[4], ROWS,
                m -> m.shift(b[0], b[1], b[2], b[3], b[4]), PLACE);
        }
    }

    private static void promise43Refusals() {
        for (int n : new int[] {0, 1, MAX}) {
            Edge.refuses("Promise 43: PLACE, i is below 0, or beyond the end: n " + n, ROWS, PLACE,
                (m, i) -> m.shift(0, i, 1, 0, n),
                -1, -2, 7, MIN, MAX);
            Edge.refuses("Promise 43: PLACE, j is below 0, or beyond the end: n " + n, ROWS, PLACE,
                (m, j) -> m.shift(0, 0, 1, j, n),
                -1, -2, 5, MIN, MAX);
        }
        for (int at : new int[] {0, 1, 3}) {
            Edge.refuses("Promise 43: PLACE, n is below 0, or goes beyond an end: from " + at, ROWS, PLACE,
                (m, n) -> m.shift(0, at, 1, at, n), -1, -2, 5 - at, 7 - at, MIN, MAX, MAX - at + 1, MAX - at);
        }
        Edge.keeps("Promise 43: PLACE", ROWS, m -> m.shift(0, MIN, 1, MIN, MIN), PLACE);
        Edge.keeps("Promise 43: PLACE", ROWS, m -> m.shift(0, MAX, 1, MAX, MAX), PLACE);
        Edge.keeps("Promise 43: PLACE", ROWS, m -> m.shift(0, MIN, 1, 0, MAX), PLACE);
        Edge.keeps("Promise 43: PLACE", ROWS, m -> m.shift(0, 1, 1, MAX, MIN), PLACE);
    }

    private static void promise43RefusalsInOrder() {
        for (int other : new int[] {0, 2, 4, 6}) {
            Edge.refuses("Promise 43: NONE, TAPES 0 .. 5, ahead of NOTHING, CAST, PLACE", ROWS, NONE,
                (m, tape) -> m.shift(tape, -1, other, 0, 1), Edge.outside(0, 5));
            Edge.refuses("Promise 43: NONE, TAPES 0 .. 5, ahead of NOTHING, CAST, PLACE", ROWS, NONE,
                (m, tape) -> m.shift(other, -1, tape, 0, 1), Edge.outside(0, 5));
        }
        for (int at : new int[] {0, -1, 7}) {
            Edge.keeps("Promise 43: NOTHING, ahead of CAST and PLACE", ROWS, m -> m.shift(4, at, 0, 0, 1), NOTHING);
            Edge.keeps("Promise 43: NOTHING, ahead of CAST and PLACE", ROWS, m -> m.shift(2, at, 4, 0, 1), NOTHING);
            Edge.keeps("Promise 43: NOTHING of both", ROWS, m -> m.shift(4, at, 5, at, 0), NOTHING);
            Edge.keeps("Promise 43: NOTHING of the same", ROWS, m -> m.shift(4, at, 4, at, 0), NOTHING);
            Edge.keeps("Promise 43: CAST, ahead of PLACE", ROWS, m -> m.shift(0, at, 2, 0, 1), CAST);
            Edge.keeps("Promise 43: CAST, ahead of PLACE", ROWS, m -> m.shift(2, 0, 1, at, 1), CAST);
            Edge.keeps("Promise 43: CAST, ahead of PLACE", ROWS, m -> m.shift(2, 0, 1, 0, at == 0 ? -1 : at), CAST);
            Edge.keeps("Promise 43: CAST of an empty row", ROWS, m -> m.shift(3, at, 2, 0, 0), CAST);
        }
        for (int tape = 0; tape < 5; tape++) {
            for (int other = 0; other < 5; other++) {
                int a = tape;
                int b = other;
                if (a != b) {
                    Edge.keeps("Promise 43: CAST: of unlike sorts: " + a + " " + b, LIVED, m -> m.shift(a, 0, b, 0, 1),
                        CAST);
                    Edge.keeps("Promise 43: CAST: of unlike sorts, none at all: " + a + " " + b, LIVED,
                        m -> m.shift(a, 0, b, 0, 0), CAST);
                }
            }
        }
    }

    /** "An object is used for at most 512 calls": the last of them are answered as the first. */
    private static void fiveHundredAndTwelveCalls() {
        Mind m = new Mind();
        while (m.calls() < 488) {
            m.put(0, 3 + m.calls() % 9);
            m.feed('c');
            m.read();
            m.image();
            m.worth(1, 0, 0, 0);
            m.ends(0, 0);
            m.fits(0);
            m.undo();
        }
        Due.is("What it is: calls ahead of the last 24", m.calls(), 488);
        m.put(0, 8);
        Map<String, Long> first = Edge.looked(NEW, Look.TOLD);
        for (int k = 0; k < 22; k++) {
            Due.is("What it is: one of 512 calls", m.monthOf(k % 12, k % 6),
                first.get("monthOf(" + k % 12 + ", " + k % 6 + ")"));
        }
        Due.is("What it is: the 512th call", m.best(0, 8, 2), Due.bits(24f));
        Due.is("What it is: 512 calls", m.calls(), 512);
        ReservoirMind free = new ReservoirMind();
        for (int k = 0; k < 2000; k++) {
            free.feed(k % 128);
            free.record(k % 4, k % 10);
            free.demand(k % 5, 0, 1, 0, 0, 0);
            free.tape(k % 6, k % 5, k % 61);
            free.read();
        }
        Due.holds("LANGUAGE 7: no call throws beyond its 512th either", true);
    }
}
