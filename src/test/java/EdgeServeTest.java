/** The bounds of promises 11 to 18, and of the Terms of ==== 1: KINDS, WANTED, GAIN, SERVED, a MONTH gone through. */
public final class EdgeServeTest {
    private static final int NONE = ReservoirMind.NONE, BAD = ReservoirMind.BAD, CAST = -12;
    private static final long NO = ReservoirMind.NO;
    private static final int MIN = Edge.MIN, MAX = Edge.MAX;
    private static final int PLAIN = 0, FIRM = 1, SUMMER = 2, STEPPED = 3, TRICKLE = 4;
    private static final Edge.Scene NEW = Scenes.NEW, LIVED = Scenes.LIVED, FULL = Scenes.FULL;

    public static void main(String[] args) {
        promise11To14();
        promise11To14Refusals();
        promise15();
        promise16FromTo();
        promise16Summer();
        promise16Refusals();
        gainOfPlain();
        gainOfFirm();
        gainOfSummer();
        gainOfStepped();
        gainOfTrickle();
        promise17();
        promise17EachMonth();
        promise17Refusals();
        promise18Dried();
        promise18Released();
        promise18Spilled();
        promise18Yield();
        promise18Flow();
        promise18Refusals();
        Due.end("EdgeServeTest");
    }

    /** Each first and last "what", told of something that bears another number in each. */
    private static void promise11To14() {
        Edge.Scene scene = m -> {
            m.put(0, 12);
            m.put(1, 11);
            m.put(2, 7);
            m.put(3, 98);
            m.inflow(11, 0, 5);
            m.inflow(11, 1, 6);
            m.inflow(11, 2, 7);
            m.month(11, 0, 8);
            m.month(11, 1, 9);
            m.part(2, 0, 2);
            m.part(2, 1, 3);
            m.part(2, 2, 4);
            m.demand(4, 9, 3, 42, 10, 5);
        };
        int[] told = {12, 11, 7, 98, 1};
        for (int k = 0; k < 5; k++) {
            int what = k;
            Edge.keeps("Promise 11: what " + k, scene, m -> m.told(what), told[k]);
        }
        int[] month = {5, 6, 7, 8, 9, 3};
        for (int k = 0; k < 6; k++) {
            int what = k;
            Edge.keeps("Promise 12: what " + k, scene, m -> m.monthOf(11, what), month[k]);
        }
        int[] part = {2, 3, 4, 9};
        for (int k = 0; k < 4; k++) {
            int to = k;
            Edge.keeps("Promise 13: to " + k, scene, m -> m.partOf(2, to), part[k]);
        }
        int[] demand = {4, 9, 3, 42, 10, 5, 0};
        for (int k = 0; k < 7; k++) {
            int what = k;
            Edge.keeps("Promise 14: what " + k, scene, m -> m.demandOf(0, what), demand[k]);
        }
    }

    private static void promise11To14Refusals() {
        Edge.refuses("Promise 11: NONE, what 0 .. 4", LIVED, NONE, Mind::told, Edge.outside(0, 4));
        Edge.refuses("Promise 12: NONE, MONTHS 0 .. 11", LIVED, NONE, (m, month) -> m.monthOf(month, 0),
            Edge.outside(0, 11));
        Edge.refuses("Promise 12: NONE, what 0 .. 5", LIVED, NONE, (m, what) -> m.monthOf(0, what), Edge.outside(0, 5));
        Edge.refuses("Promise 13: NONE, from a STATE 0 .. 2", LIVED, NONE, (m, from) -> m.partOf(from, 0),
            Edge.outside(0, 2));
        Edge.refuses("Promise 13: NONE, from a STATE 0 .. 2", LIVED, NONE, (m, from) -> m.partOf(from, 3),
            Edge.outside(0, 2));
        Edge.refuses("Promise 13: NONE, to 0 .. 3", LIVED, NONE, (m, to) -> m.partOf(2, to), Edge.outside(0, 3));
        for (int what : new int[] {0, 6}) {
            Edge.refuses("Promise 14: NONE, a DEMAND, there are 4", LIVED, NONE, (m, d) -> m.demandOf(d, what),
                Edge.outside(0, 3));
            Edge.refuses("Promise 14: NONE, a DEMAND, there are 6", FULL, NONE, (m, d) -> m.demandOf(d, what),
                Edge.outside(0, 5));
            Edge.refuses("Promise 14: NONE, a DEMAND, there are none", NEW, NONE, (m, d) -> m.demandOf(d, what), 0, -1,
                5);
        }
        Edge.refuses("Promise 14: NONE, what 0 .. 6", LIVED, NONE, (m, what) -> m.demandOf(3, what),
            Edge.outside(0, 6));
    }

    private static Edge.Scene one(int kind, int wants, int worth, int from, int to) {
        return m -> m.demand(kind, 0, wants, worth, from, to);
    }

    /** FIRM, SUMMER, TRICKLE under PLAIN; STEPPED under FIRM, and so under PLAIN. */
    private static void promise15() {
        boolean[][] isUnder = {{true, false, false, false, false}, {true, true, false, false, false},
            {true, false, true, false, false}, {true, true, false, true, false}, {true, false, false, false, true}};
        for (int k = 0; k < 5; k++) {
            int kind = k;
            Edge.Scene scene = one(kind, 1, 0, 0, 0);
            for (int l = 0; l < 5; l++) {
                int as = l;
                Edge.keeps("Promise 15, ==== 1 KIND " + kind + " taken for one of KIND " + as, scene,
                    m -> m.taken(0, as),
                    isUnder[kind][as] ? kind : CAST);
            }
            Edge.refuses("Promise 15: BAD, k 0 .. 4, ahead of CAST", scene, BAD, (m, as) -> m.taken(0, as),
                Edge.outside(0, 4));
            for (int as : new int[] {0, 4, 5, -1}) {
                Edge.refuses("Promise 15: NONE, ahead of BAD and CAST", scene, NONE, (m, d) -> m.taken(d, as), 1, -1,
                    MIN, MAX);
            }
        }
        Edge.refuses("Promise 15: NONE, a DEMAND, there are 4", LIVED, NONE, (m, d) -> m.taken(d, 0),
            Edge.outside(0, 3));
        Edge.refuses("Promise 15: NONE, a DEMAND, there are 6", FULL, NONE, (m, d) -> m.taken(d, 0),
            Edge.outside(0, 5));
        Edge.refuses("Promise 15: NONE, there are no DEMANDS", NEW, NONE, (m, d) -> m.taken(d, 0), 0, -1);
    }

    /** Months as signs, 0 .. 11: w what it WANTS, 2 twice that, . none. */
    private static void wanted(String place, int kind, int from, int to, String months) {
        for (int wants : new int[] {1, 5, 9}) {
            Mind m = Edge.made(one(kind, wants, 7, from, to));
            for (int month = 0; month < 12; month++) {
                char sign = months.charAt(month);
                Due.is(place + ": KIND " + kind + " FROM " + from + " TO " + to + " in " + month, m.wanted(0, month),
                    sign == 'w' ? wants : sign == '2' ? 2 * wants : 0);
            }
        }
    }

    private static void promise16FromTo() {
        String in = "Promise 16, ==== 1 WANTED: WANTS in MONTHS FROM .. TO, 0 in others";
        String over = "Promise 16, ==== 1 WANTED: if TO is less than FROM: from FROM on, and up to TO";
        for (int kind : new int[] {PLAIN, FIRM, STEPPED, TRICKLE}) {
            wanted(in, kind, 0, 11, "wwwwwwwwwwww");
            wanted(in, kind, 3, 5, "...www......");
            wanted(in, kind, 4, 4, "....w.......");
            wanted(in, kind, 0, 0, "w...........");
            wanted(in, kind, 11, 11, "...........w");
            wanted(in, kind, 0, 1, "ww..........");
            wanted(in, kind, 10, 11, "..........ww");
            wanted(in, kind, 1, 10, ".wwwwwwwwww.");
            wanted(in, kind, 4, 9, "....wwwwww..");
            wanted(over, kind, 11, 0, "w..........w");
            wanted(over, kind, 10, 1, "ww........ww");
            wanted(over, kind, 5, 4, "wwwwwwwwwwww");
            wanted(over, kind, 1, 0, "wwwwwwwwwwww");
            wanted(over, kind, 11, 10, "wwwwwwwwwwww");
            wanted(over, kind, 6, 4, "wwwww.wwwwww");
            wanted(over, kind, 2, 0, "w.wwwwwwwwww");
        }
    }

    private static void promise16Summer() {
        String place = "Promise 16, ==== 1 SUMMER: what a PLAIN one has as WANTED, twice in MONTHS 5 .. 8";
        wanted(place, SUMMER, 0, 11, "wwwww2222www");
        wanted(place, SUMMER, 4, 5, "....w2......");
        wanted(place, SUMMER, 8, 9, "........2w..");
        wanted(place, SUMMER, 5, 5, ".....2......");
        wanted(place, SUMMER, 8, 8, "........2...");
        wanted(place, SUMMER, 4, 4, "....w.......");
        wanted(place, SUMMER, 9, 9, ".........w..");
        wanted(place, SUMMER, 9, 4, "wwwww....www");
        wanted(place, SUMMER, 8, 5, "wwwww2..2www");
        wanted(place, SUMMER, 6, 7, "......22....");
    }

    private static void promise16Refusals() {
        for (int month : new int[] {0, 11, 12}) {
            Edge.refuses("Promise 16: NONE, a DEMAND, there are 4", LIVED, NONE, (m, d) -> m.wanted(d, month),
                Edge.outside(0, 3));
            Edge.refuses("Promise 16: NONE, a DEMAND, there are 6", FULL, NONE, (m, d) -> m.wanted(d, month),
                Edge.outside(0, 5));
            Edge.refuses("Promise 16: NONE, there are no DEMANDS", NEW, NONE, (m, d) -> m.wanted(d, month), 0, -1);
        }
        Edge.refuses("Promise 16: NONE, MONTHS 0 .. 11", LIVED, NONE, (m, month) -> m.wanted(0, month),
            Edge.outside(0, 11));
        Edge.keeps("Promise 16: it is asked", LIVED, m -> m.wanted(3, 9), 1);
        Edge.keeps("Promise 16: it is asked", LIVED, m -> m.wanted(3, 10), 0);
    }

    /** GAIN with 0 units and on, until one more than is WANTED, in MONTH 5. */
    private static void gains(String place, int kind, int wants, int worth, long... dues) {
        Mind m = Edge.made(one(kind, wants, worth, 5, 5));
        int wanted = kind == SUMMER ? 2 * wants : wants;
        Due.is(place + ": as many as 0 .. WANTED", dues.length, wanted + 1);
        for (int x = 0; x <= wanted; x++) {
            Due.is(place + ": got of " + x, m.served(0, 5, x, 0), x);
            Due.is(place + ": GAIN with " + x, m.served(0, 5, x, 1), dues[x]);
        }
        for (int x : new int[] {wanted + 1, 20, 21, 1000, MAX}) {
            Due.is(place + ": got of " + x, m.served(0, 5, x, 0), wanted);
            Due.is(place + ": GAIN with " + x, m.served(0, 5, x, 1), dues[wanted]);
        }
        for (int month : new int[] {4, 6}) {
            for (int x : new int[] {0, 1, MAX}) {
                Due.is(place + ": got where none is WANTED", m.served(0, month, x, 0), 0);
                Due.is(place + ": GAIN where none is WANTED", m.served(0, month, x, 1), 0);
            }
        }
    }

    private static void gainOfPlain() {
        String place = "Promise 17, ==== 1 PLAIN: got times WORTH";
        gains(place, PLAIN, 1, 0, 0, 0);
        gains(place, PLAIN, 1, 99, 0, 99);
        gains(place, PLAIN, 3, 7, 0, 7, 14, 21);
        gains(place, PLAIN, 9, 99, 0, 99, 198, 297, 396, 495, 594, 693, 792, 891);
    }

    private static void gainOfFirm() {
        String place = "Promise 17, ==== 1 FIRM: less the units it lacks times WORTH";
        gains(place, FIRM, 1, 0, 0, 0);
        gains(place, FIRM, 1, 99, -99, 99);
        gains(place, FIRM, 3, 7, -21, -7, 7, 21);
        gains(place, FIRM, 9, 99, -891, -693, -495, -297, -99, 99, 297, 495, 693, 891);
    }

    private static void gainOfSummer() {
        String place = "Promise 17, ==== 1 SUMMER under PLAIN: got times WORTH";
        gains(place, SUMMER, 1, 7, 0, 7, 14);
        gains(place, SUMMER, 3, 99, 0, 99, 198, 297, 396, 495, 594);
        Mind m = Edge.made(one(SUMMER, 9, 99, 0, 11));
        Due.is(place + ": 18 of 18", m.served(0, 8, 18, 1), 1782);
        Due.is(place + ": 9 of 9", m.served(0, 9, 18, 1), 891);
    }

    private static void gainOfStepped() {
        String place = "Promise 17, ==== 1 STEPPED: half of WORTH (cut) more, if it lacks none (and any is wanted)";
        gains(place, STEPPED, 1, 0, 0, 0);
        gains(place, STEPPED, 1, 1, -1, 1);
        gains(place, STEPPED, 1, 2, -2, 3);
        gains(place, STEPPED, 1, 3, -3, 4);
        gains(place, STEPPED, 3, 9, -27, -9, 9, 31);
        gains(place, STEPPED, 3, 10, -30, -10, 10, 35);
        gains(place, STEPPED, 2, 99, -198, 0, 247);
    }

    private static void gainOfTrickle() {
        String place = "Promise 17, ==== 1 TRICKLE: the first is worth WORTH, each other half of the one ahead (cut)";
        gains(place, TRICKLE, 1, 0, 0, 0);
        gains(place, TRICKLE, 1, 99, 0, 99);
        gains(place, TRICKLE, 3, 1, 0, 1, 1, 1);
        gains(place, TRICKLE, 4, 2, 0, 2, 3, 3, 3);
        gains(place, TRICKLE, 4, 3, 0, 3, 4, 4, 4);
        gains(place, TRICKLE, 5, 16, 0, 16, 24, 28, 30, 31);
        gains(place, TRICKLE, 9, 99, 0, 99, 148, 172, 184, 190, 193, 194, 194, 194);
    }

    private static void promise17() {
        Edge.Scene scene = m -> {
            m.demand(PLAIN, 1, 3, 10, 0, 11);
            m.demand(FIRM, 1, 2, 10, 0, 11);
            m.demand(TRICKLE, 0, 4, 10, 0, 11);
            m.demand(PLAIN, 9, 9, 1, 0, 11);
            m.demand(PLAIN, 0, 1, 1, 7, 7);
        };
        // x, then what each gets in MONTH 0: the third goes first, then the first, the second, the fourth
        int[][] dues = {{0, 0, 0, 0, 0}, {1, 0, 0, 1, 0}, {3, 0, 0, 3, 0}, {4, 0, 0, 4, 0}, {5, 1, 0, 4, 0},
            {6, 2, 0, 4, 0},
            {7, 3, 0, 4, 0}, {8, 3, 1, 4, 0}, {9, 3, 2, 4, 0}, {10, 3, 2, 4, 1}, {17, 3, 2, 4, 8}, {18, 3, 2, 4, 9},
            {19, 3, 2, 4, 9}, {MAX, 3, 2, 4, 9}};
        for (int[] due : dues) {
            for (int k = 0; k < 4; k++) {
                int demand = k;
                Edge.keeps("Promise 17, ==== 1 SERVED: by RANK, of like ones by number: " + due[0] + " units", scene,
                    m -> m.served(demand, 0, due[0], 0), due[k + 1]);
            }
            Edge.keeps("Promise 17, ==== 1 SERVED: one that wants none gets none", scene,
                m -> m.served(4, 0, due[0], 0), 0);
        }
        Mind m = Edge.made(scene);
        Due.is("Promise 17: in MONTH 7 the third, then the fifth", m.served(2, 7, 4, 0), 4);
        Due.is("Promise 17: nothing is left for it", m.served(4, 7, 4, 0), 0);
        Due.is("Promise 17: one is left for it", m.served(4, 7, 5, 0), 1);
        Due.is("Promise 17: and none for the first", m.served(0, 7, 5, 0), 0);
        Due.is("Promise 17: GAIN of one that lacks both", m.served(1, 0, 7, 1), -20);
        Due.is("Promise 17: GAIN of one that lacks one", m.served(1, 0, 8, 1), 0);
        Due.is("Promise 17: GAIN of one that lacks none", m.served(1, 0, 9, 1), 20);
        m.renew(1, 0, 0);
        Due.is("Promise 17: the second, of RANK 0 now, goes ahead of the third", m.served(1, 0, 4, 0), 2);
        Due.is("Promise 17: and leaves two of four", m.served(2, 0, 4, 0), 2);
    }

    private static void promise17EachMonth() {
        for (int month = 0; month < 12; month++) {
            int in = month;
            Edge.Scene scene = m -> m.demand(STEPPED, 0, 2, 9, in, in);
            Edge.keeps("Promise 17: MONTHS 0 .. 11: got in " + in, scene, m -> m.served(0, in, 3, 0), 2);
            Edge.keeps("Promise 17: MONTHS 0 .. 11: GAIN in " + in, scene, m -> m.served(0, in, 3, 1), 22);
            Edge.keeps("Promise 17: got in the MONTH behind", scene, m -> m.served(0, (in + 1) % 12, 3, 0), 0);
            Edge.keeps("Promise 17: GAIN in the MONTH ahead", scene, m -> m.served(0, (in + 11) % 12, 0, 1), 0);
        }
    }

    private static void promise17Refusals() {
        for (int what : new int[] {0, 1}) {
            Edge.refuses("Promise 17: NO, a DEMAND, there are 4", LIVED, NO, (m, d) -> m.served(d, 0, 5, what),
                Edge.outside(0, 3));
            Edge.refuses("Promise 17: NO, a DEMAND, there are 6", FULL, NO, (m, d) -> m.served(d, 0, 5, what),
                Edge.outside(0, 5));
            Edge.refuses("Promise 17: NO, there are no DEMANDS", NEW, NO, (m, d) -> m.served(d, 0, 5, what), 0, -1);
            Edge.refuses("Promise 17: NO, MONTHS 0 .. 11", LIVED, NO, (m, month) -> m.served(0, month, 5, what),
                Edge.outside(0, 11));
            Edge.refuses("Promise 17: NO, x below 0", LIVED, NO, (m, x) -> m.served(0, 0, x, what), -1, -2, MIN);
        }
        Edge.refuses("Promise 17: NO, what 0 .. 1", LIVED, NO, (m, what) -> m.served(0, 0, 5, what),
            Edge.outside(0, 1));
    }

    private static void promise18Dried() {
        // a STORE, DRIES, as many as
        int[][] dues = {{0, 9, 0}, {1, 0, 0}, {12, 0, 0}, {1, 9, 0}, {2, 4, 0}, {2, 5, 1}, {3, 3, 0}, {3, 4, 1},
            {5, 1, 0},
            {5, 2, 1}, {9, 1, 0}, {10, 1, 1}, {11, 1, 1}, {12, 1, 1}, {10, 9, 9}, {11, 9, 9}, {12, 8, 9}, {12, 9, 10}};
        for (int[] due : dues) {
            Mind m = new Mind();
            m.put(0, 12);
            m.month(11, 0, due[1]);
            Due.is("Promise 18, ==== 1 DRIES: STORE " + due[0] + " times " + due[1] + " by 10 (cut)",
                m.step(11, due[0], 0, 0, 0), due[2]);
            Due.is("Promise 18, ==== 1 THERE is s less DRIED and q", m.step(11, due[0], 7, 0, 1), due[0] - due[2] + 7);
            Due.is("Promise 18, ==== 1 DRIES of that MONTH alone", m.step(10, due[0], 0, 0, 0), 0);
        }
    }

    private static void promise18Released() {
        Mind m = new Mind();
        // 8 and 5 are 13
        int[][] dues = {{0, 0}, {1, 1}, {12, 12}, {13, 13}, {14, 13}, {20, 13}, {21, 13}, {99, 13}, {100, 13},
            {MAX, 13}};
        for (int[] due : dues) {
            Due.is("Promise 18, ==== 1 RELEASED is the lesser of r and THERE: " + due[0], m.step(3, 8, 5, due[0], 2),
                due[1]);
        }
        Due.is("Promise 18: nothing is THERE", m.step(3, 0, 0, 0, 2), 0);
        Due.is("Promise 18: nothing is THERE", m.step(3, 0, 0, 1, 2), 0);
        Due.is("Promise 18: nothing is THERE", m.step(3, 0, 0, MAX, 2), 0);
    }

    private static void promise18Spilled() {
        for (int flood : new int[] {0, 3, 7, 8, 9}) {
            Mind m = new Mind();
            m.month(6, 1, flood);
            int top = flood >= 8 ? 0 : 8 - flood;
            for (int rest = 0; rest <= 16; rest++) {
                int r = 16 - rest;
                int spilled = rest <= top ? 0 : rest - top;
                String place = "Promise 18, ==== 1 TOP " + top + ", REST " + rest;
                Due.is(place + ": SPILLED is what REST has above TOP", m.step(6, 8, 8, r, 3), spilled);
                Due.is(place + ": the next STORE is REST less SPILLED", m.step(6, 8, 8, r, 4), rest - spilled);
                Due.is(place + ": HARM for each unit SPILLED", m.step(6, 8, 8, r, 5), -2L * spilled);
            }
            Due.is("Promise 18, ==== 1 FLOOD of that MONTH alone", m.step(7, 8, 0, 0, 3), 0);
        }
    }

    private static void promise18Yield() {
        Edge.Scene scene = m -> {
            m.put(2, 9);
            m.demand(FIRM, 0, 2, 10, 0, 11);
            m.demand(STEPPED, 1, 1, 5, 0, 11);
            m.demand(TRICKLE, 2, 2, 7, 0, 11);
        };
        // 8 and 6 are 14 in a CAP of 8: a release, then GAINS together, then what is SPILLED
        long[][] dues = {{0, -25, 6}, {1, -5, 5}, {2, 15, 4}, {3, 27, 3}, {4, 34, 2}, {5, 37, 1}, {6, 37, 0},
            {7, 37, 0},
            {14, 37, 0}, {MAX, 37, 0}};
        for (long[] due : dues) {
            Edge.keeps("Promise 18, ==== 1 YIELD: GAINS of all with RELEASED, less HARM times SPILLED: " + due[0],
                scene,
                m -> m.step(2, 8, 6, (int) due[0], 5), due[1] - 9 * due[2]);
            Edge.keeps("Promise 18: SPILLED", scene, m -> m.step(2, 8, 6, (int) due[0], 3), due[2]);
        }
        Mind m = Edge.made(scene);
        m.put(2, 0);
        Due.is("Promise 18, ==== 1 HARM 0", m.step(2, 8, 6, 0, 5), -25);
    }

    private static void promise18Flow() {
        Mind m = new Mind();
        for (int q : new int[] {0, 1, 98, 99}) {
            Due.is("Promise 18: a flow q (0 .. 99): THERE", m.step(0, 3, q, 0, 1), 3 + q);
            Due.is("Promise 18: a flow q (0 .. 99): RELEASED", m.step(0, 3, q, MAX, 2), 3 + q);
            Due.is("Promise 18: a flow q (0 .. 99): SPILLED", m.step(0, 3, q, 0, 3), q <= 5 ? 0 : q - 5);
        }
        for (int cap : new int[] {1, 5, 12}) {
            m.put(0, cap);
            Due.is("Promise 18: a STORE of CAP", m.step(0, cap, 0, 0, 4), cap);
            Due.is("Promise 18: a STORE of CAP 1 more", m.step(0, cap + 1, 0, 0, 4), NO);
        }
        Due.is("Promise 18: MONTH 11", m.step(11, 12, 0, 0, 4), 12);
    }

    private static void promise18Refusals() {
        for (int k = 0; k < 6; k++) {
            int what = k;
            Edge.refuses("Promise 18: NO, MONTHS 0 .. 11", LIVED, NO, (m, v) -> m.step(v, 5, 5, 5, what),
                Edge.outside(0, 11));
            Edge.refuses("Promise 18: NO, a STORE 0 .. CAP", LIVED, NO, (m, v) -> m.step(0, v, 5, 5, what),
                Edge.outside(0, 7));
            Edge.refuses("Promise 18: NO, a flow 0 .. 99", LIVED, NO, (m, v) -> m.step(0, 5, v, 5, what),
                Edge.outside(0, 99));
            Edge.refuses("Promise 18: NO, a release below 0", LIVED, NO, (m, v) -> m.step(0, 5, 5, v, what), -1, -2,
                MIN);
        }
        Edge.refuses("Promise 18: NO, what 0 .. 5", LIVED, NO, (m, v) -> m.step(0, 5, 5, 5, v), Edge.outside(0, 5));
    }
}
