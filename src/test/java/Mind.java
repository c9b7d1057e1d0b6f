/**
 * A ReservoirMind that counts its calls: an object is used for at most 512 of them after it has been made, and what
 * later calls answer is free, so no test may ask one of these for a 513th.
 */
final class Mind {
    static final int MOST = 512;

    private final ReservoirMind mind = new ReservoirMind();
    private int calls = 0;

    int calls() {
        return calls;
    }

    private ReservoirMind next() {
        calls++;
        if (calls > MOST) {
            throw new IllegalStateException("a test makes more than " + MOST + " calls of one object");
        }
        return mind;
    }

    int put(int what, int v) {
        return next().put(what, v);
    }

    int inflow(int month, int state, int v) {
        return next().inflow(month, state, v);
    }

    int part(int from, int to, int v) {
        return next().part(from, to, v);
    }

    int month(int month, int what, int v) {
        return next().month(month, what, v);
    }

    int demand(int kind, int rank, int wants, int worth, int from, int to) {
        return next().demand(kind, rank, wants, worth, from, to);
    }

    int renew(int demand, int what, int v) {
        return next().renew(demand, what, v);
    }

    int drop(int demand) {
        return next().drop(demand);
    }

    int feed(int sign) {
        return next().feed(sign);
    }

    int read() {
        return next().read();
    }

    int told(int what) {
        return next().told(what);
    }

    int monthOf(int month, int what) {
        return next().monthOf(month, what);
    }

    int partOf(int from, int to) {
        return next().partOf(from, to);
    }

    int demandOf(int demand, int what) {
        return next().demandOf(demand, what);
    }

    int taken(int demand, int k) {
        return next().taken(demand, k);
    }

    int wanted(int demand, int month) {
        return next().wanted(demand, month);
    }

    long served(int demand, int month, int x, int what) {
        return next().served(demand, month, x, what);
    }

    long step(int month, int store, int q, int r, int what) {
        return next().step(month, store, q, r, what);
    }

    long best(int month, int store, int state) {
        return next().best(month, store, state);
    }

    int release(int month, int store, int state) {
        return next().release(month, store, state);
    }

    long would(int month, int store, int state, int r) {
        return next().would(month, store, state, r);
    }

    long after(int n, int from, int to) {
        return next().after(n, from, to);
    }

    int way(int from, int n, int k) {
        return next().way(from, n, k);
    }

    long chance(int from, int n) {
        return next().chance(from, n);
    }

    long worth(int what, int k, int store, int state) {
        return next().worth(what, k, store, state);
    }

    int record(int record, int v) {
        return next().record(record, v);
    }

    long replay(int record, int store, int by, int n, int what) {
        return next().replay(record, store, by, n, what);
    }

    long sure(int record, int store, int by, int demand, int part) {
        return next().sure(record, store, by, demand, part);
    }

    int learn(int record) {
        return next().learn(record);
    }

    int see(int month, int store, int state, int r) {
        return next().see(month, store, state, r);
    }

    int fits(int what) {
        return next().fits(what);
    }

    int plan(int what, int v) {
        return next().plan(what, v);
    }

    long ends(int store, int state) {
        return next().ends(store, state);
    }

    int book(int month, int store, int r) {
        return next().book(month, store, r);
    }

    int looked() {
        return next().looked();
    }

    int judge(int record, int store, int by, int tape, int i) {
        return next().judge(record, store, by, tape, i);
    }

    int image() {
        return next().image();
    }

    int undo() {
        return next().undo();
    }

    int count(int what) {
        return next().count(what);
    }

    int tape(int tape, int sort, int n) {
        return next().tape(tape, sort, n);
    }

    int item(int tape, int i, long v) {
        return next().item(tape, i, v);
    }

    long peek(int tape, int i) {
        return next().peek(tape, i);
    }

    int shift(int tape, int i, int other, int j, int n) {
        return next().shift(tape, i, other, j, n);
    }
}
