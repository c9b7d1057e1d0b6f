/**
 * Reservoir mind: a reservoir by months, its demands, the best releases, records, plans, books.
 * README.md says how to use it; the promises it keeps are numbered in the project's document.
 *
 * All rows are made in the constructors and used again, so that no later call makes an object.
 */
public final class ReservoirMind {
    public static final int NONE = -1, BAD = -2, STATE = -3, FULL = -4;
    public static final long NO = Long.MIN_VALUE;

    private static final int NOTHING = -11, CAST = -12, PLACE = -13, SIZE = -14;
    /** What is answered where no row, LEFT or STORE is the one looked for. */
    private static final int NOT_ANY = -5;
    private static final int READ_FAULT = -10, ROW_ENDED = 100;

    private static final int MONTHS = 12, STATES = 3, DEMANDS = 6, RECORDS = 4, TAPES = 6;
    private static final int CAP_MOST = 12, RELEASE_MOST = 20, FLOW_MOST = 99, UNITS_MOST = 9, DIGIT_MOST = 9;
    private static final int AFTER_MOST = 12, WAY_MOST = 8, TRAILS = 6561, LEFT_TRIED = 20;
    private static final int RECORD_MONTHS = 24, SEEN_ROWS = 5, PLAN_ROWS = 8, BOOK_ROWS = 8;
    private static final int TEXT_SIGNS = 100, SIGN_MOST = 127, CLAUSES = 12, CLAUSE_WIDTH = 7;
    private static final int TAPE_ITEMS = 60, NO_ROW = -1, LONGS = 3, BOOLEANS = 4;

    private static final int PLAIN = 0, FIRM = 1, SUMMER = 2, STEPPED = 3, TRICKLE = 4;
    /** The KIND above each KIND; -1 above PLAIN. */
    private static final int[] KIND_ABOVE = {-1, 0, 0, 1, 0};
    /** CAP, the HORIZON, HARM, LEFT. */
    private static final int[] SETTING_LEAST = {1, 1, 0, 0};
    private static final int[] SETTING_MOST = {12, 12, 9, 99};
    /** RANK, WANTS, WORTH. */
    private static final int[] RENEW_LEAST = {0, 1, 0};
    private static final int[] RENEW_MOST = {9, 9, 99};

    /** One store more than CAP may ever be: the WORTH of ROOM asks for a CAP of 13. */
    private static final int STORES = CAP_MOST + 2;
    private static final int RELEASES = RELEASE_MOST + 1;

    private final Setting now = new Setting();
    private final Setting kept = new Setting();
    private boolean isKept = false;
    private final Basin thought = new Basin();
    private final BestRows nowRows = new BestRows();
    private final BestRows thoughtRows = new BestRows();
    private boolean nowSolved = false;
    private boolean fitsFound = false;
    private int fitCount = 0;
    private int fitLeast = NOT_ANY;
    private final Chain chain = new Chain();
    private final Passage passage = new Passage();
    private final Course course = new Course();
    private final Lines[] records = new Lines[RECORDS];
    private final Lines text = new Lines(1, TEXT_SIGNS);
    private final Clauses clauses = new Clauses();
    private final Tape[] tapes = new Tape[TAPES];

    public ReservoirMind() {
        for (int k = 0; k < RECORDS; k++) {
            records[k] = new Lines(1, RECORD_MONTHS);
        }
        for (int k = 0; k < TAPES; k++) {
            tapes[k] = new Tape();
        }
    }

    // ---- the reservoir, demands

    public int put(int what, int v) {
        forgetFound();
        return now.basin.changeSetting(what, v);
    }

    public int inflow(int month, int state, int v) {
        forgetFound();
        return now.basin.changeInflow(month, state, v);
    }

    public int part(int from, int to, int v) {
        forgetFound();
        return now.basin.changePart(from, to, v);
    }

    public int month(int month, int what, int v) {
        forgetFound();
        return now.basin.changeMonth(month, what, v);
    }

    public int demand(int kind, int rank, int wants, int worth, int from, int to) {
        forgetFound();
        return now.basin.addDemand(kind, rank, wants, worth, from, to);
    }

    public int renew(int demand, int what, int v) {
        forgetFound();
        return now.basin.changeDemand(demand, what, v);
    }

    public int drop(int demand) {
        forgetFound();
        return now.basin.removeDemand(demand);
    }

    public int feed(int sign) {
        if (!within(sign, 0, SIGN_MOST)) {
            return BAD;
        }
        return text.add(sign);
    }

    public int read() {
        forgetFound();
        int fault = clauses.takeAll(text);
        text.clear();
        return fault == NOT_ANY ? clauses.doAll(now.basin) : READ_FAULT - fault;
    }

    // ---- what there is

    public int told(int what) {
        return what == 4 ? now.basin.size : now.basin.settingOf(what);
    }

    public int monthOf(int month, int what) {
        if (!within(month, 0, MONTHS - 1)) {
            return NONE;
        }
        switch (what) {
            case 0:
            case 1:
            case 2:
                return now.basin.inflowIn(month, what);
            case 3:
                return now.basin.dries[month];
            case 4:
                return now.basin.floods[month];
            case 5:
                return now.basin.topOf(month);
            default:
                return NONE;
        }
    }

    public int partOf(int from, int to) {
        if (!isState(from) || !within(to, 0, STATES)) {
            return NONE;
        }
        return to == STATES ? now.basin.allPartsFrom(from) : now.basin.parts[from * STATES + to];
    }

    public int demandOf(int demand, int what) {
        if (!now.basin.hasDemand(demand)) {
            return NONE;
        }
        return what == 6 ? now.basin.placeByRank(demand) : now.basin.demands[demand].tell(what);
    }

    public int taken(int demand, int k) {
        if (!now.basin.hasDemand(demand)) {
            return NONE;
        }
        if (!within(k, PLAIN, TRICKLE)) {
            return BAD;
        }
        int kind = now.basin.demands[demand].kind;
        return isUnder(kind, k) ? kind : CAST;
    }

    public int wanted(int demand, int month) {
        if (!now.basin.hasDemand(demand) || !within(month, 0, MONTHS - 1)) {
            return NONE;
        }
        return now.basin.demands[demand].wantedIn(month);
    }

    public long served(int demand, int month, int x, int what) {
        if (!now.basin.hasDemand(demand) || !within(month, 0, MONTHS - 1) || x < 0 || !within(what, 0, 1)) {
            return NO;
        }
        int got = now.basin.gotBy(demand, month, x);
        return what == 0 ? got : now.basin.demands[demand].gainOf(got, now.basin.demands[demand].wantedIn(month));
    }

    public long step(int month, int store, int q, int r, int what) {
        if (!within(month, 0, MONTHS - 1) || !within(what, 0, 5) || !isStore(store)
                || !within(q, 0, FLOW_MOST) || r < 0) {
            return NO;
        }
        passage.go(now.basin, month, store, q, r);
        return passage.tell(what);
    }

    // ---- the best

    public long best(int month, int store, int state) {
        if (!within(month, 0, now.basin.horizon) || !isStore(store) || !isState(state)) {
            return NO;
        }
        solveNow();
        return bitsOf(nowRows.bestAt(month, store, state));
    }

    public int release(int month, int store, int state) {
        if (!now.basin.isAhead(month, store) || !isState(state)) {
            return NONE;
        }
        solveNow();
        return nowRows.releaseAt(month, store, state);
    }

    public long would(int month, int store, int state, int r) {
        if (!now.basin.isAhead(month, store) || !isState(state) || !within(r, 0, RELEASE_MOST)) {
            return NO;
        }
        solveNow();
        return bitsOf(nowRows.comesTo(now.basin, month, store, state, r));
    }

    public long after(int n, int from, int to) {
        if (!isState(from) || !isState(to) || !within(n, 0, AFTER_MOST)) {
            return NO;
        }
        chain.load(now.basin);
        return bitsOf(chain.oddsAfter(n, from, to));
    }

    public int way(int from, int n, int k) {
        if (!isState(from) || !within(n, 1, WAY_MOST) || !within(k, 0, n - 1)) {
            return NONE;
        }
        chain.load(now.basin);
        chain.findLikeliest(from, n);
        return chain.likeliest[k];
    }

    public long chance(int from, int n) {
        if (!isState(from) || !within(n, 1, WAY_MOST)) {
            return NO;
        }
        chain.load(now.basin);
        chain.findLikeliest(from, n);
        return bitsOf(chain.greatest);
    }

    public long worth(int what, int k, int store, int state) {
        if (!canBeWorth(what, k) || !isStore(store) || !isState(state)) {
            return NO;
        }
        thought.copyFrom(now.basin);
        if (what == 0) {
            thought.silence(k);
        } else if (what == 1) {
            thought.cap++;
        } else {
            thought.floods[k]++;
        }
        solveNow();
        solveThought();
        float is = nowRows.bestAt(0, store, state);
        float would = thoughtRows.bestAt(0, store, state);
        return bitsOf(what == 1 ? would - is : is - would);
    }

    // ---- records

    public int record(int record, int v) {
        if (!within(record, 0, RECORDS - 1)) {
            return NONE;
        }
        if (v == -1) {
            return records[record].clear();
        }
        if (!within(v, 0, UNITS_MOST)) {
            return BAD;
        }
        return records[record].add(v);
    }

    public long replay(int record, int store, int by, int n, int what) {
        if (!canReplay(record, store, by) || !within(n, 0, records[record].size) || !within(what, 0, 5)) {
            return NO;
        }
        goThrough(record, store, by, n);
        return course.tell(what);
    }

    public long sure(int record, int store, int by, int demand, int part) {
        if (!canReplay(record, store, by) || !now.basin.hasDemand(demand) || !within(part, 0, 1)) {
            return NO;
        }
        goThrough(record, store, by, records[record].size);
        int all = course.monthsWanting(now.basin, demand);
        int met = course.monthsMet(now.basin, demand);
        if (all <= 0) {
            return NO;
        }
        int divisor = commonDivisor(all, met);
        return part == 0 ? met / divisor : all / divisor;
    }

    public int learn(int record) {
        if (!within(record, 0, RECORDS - 1)) {
            return NONE;
        }
        if (records[record].size < 2) {
            return STATE;
        }
        forgetFound();
        now.basin.learnParts(records[record]);
        return records[record].size;
    }

    // ---- seen, plans, books

    public int see(int month, int store, int state, int r) {
        fitsFound = false;
        if (month == -1) {
            return now.seen.clear();
        }
        if (!now.basin.isAhead(month, store) || !isState(state)) {
            return NONE;
        }
        if (!within(r, 0, RELEASE_MOST)) {
            return BAD;
        }
        return now.seen.add(month, store, state, r);
    }

    public int fits(int what) {
        if (!within(what, 0, 1)) {
            return NONE;
        }
        findFits();
        return what == 0 ? fitCount : fitLeast;
    }

    public int plan(int what, int v) {
        if (what == -1) {
            return now.plan.clear();
        }
        if (!within(what, 0, 3) || (what == 3 && !now.basin.hasDemand(v))) {
            return NONE;
        }
        if (what == 0 && !within(v, 1, CAP_MOST)) {
            return BAD;
        }
        if ((what == 1 || what == 2) && !within(v, 0, DIGIT_MOST)) {
            return BAD;
        }
        return now.plan.add(what, v);
    }

    public long ends(int store, int state) {
        if (!isStore(store) || !isState(state)) {
            return NO;
        }
        thought.copyFrom(now.basin);
        for (int row = 0; row < now.plan.size; row++) {
            thought.goByPlan(now.plan.at(row, 0), now.plan.at(row, 1));
        }
        solveThought();
        return bitsOf(thoughtRows.bestAt(0, Math.min(store, thought.cap), state));
    }

    public int book(int month, int store, int r) {
        if (month == -1) {
            return now.book.clear();
        }
        if (!within(month, 0, MONTHS - 1)) {
            return NONE;
        }
        if (!within(store, 0, CAP_MOST) || !within(r, 0, RELEASE_MOST)) {
            return BAD;
        }
        return now.book.add(month, store, r);
    }

    public int looked() {
        if (now.book.size > 0) {
            solveNow();
        }
        for (int row = 0; row < now.book.size; row++) {
            int month = now.book.at(row, 0);
            int store = now.book.at(row, 1);
            if (!now.basin.isAhead(month, store) || nowRows.releaseAt(month, store, 1) != now.book.at(row, 2)) {
                return row;
            }
        }
        return NOT_ANY;
    }

    // ---- judging, the image, tapes

    public int judge(int record, int store, int by, int tape, int i) {
        if (!canReplay(record, store, by) || !isTape(tape)) {
            return NONE;
        }
        Tape row = tapes[tape];
        if (row.sort != NO_ROW && row.sort != LONGS) {
            return CAST;
        }
        if (row.sort == NO_ROW || i < 0) {
            return ROW_ENDED;
        }
        goThrough(record, store, by, records[record].size);
        for (int k = 0; k <= course.months; k++) {
            // written as a difference, since i + k may be beyond what an int holds
            if (k >= row.size - i) {
                return ROW_ENDED + k;
            }
            if (row.items[i + k] != course.stores[k]) {
                return k;
            }
        }
        return NOT_ANY;
    }

    public int image() {
        kept.copyFrom(now);
        isKept = true;
        return now.basin.size;
    }

    public int undo() {
        if (!isKept) {
            return STATE;
        }
        forgetFound();
        now.copyFrom(kept);
        return now.basin.size;
    }

    public int count(int what) {
        switch (what) {
            case 0:
                return now.basin.size;
            case 1:
                return now.seen.size;
            case 2:
                return now.plan.size;
            case 3:
                return now.book.size;
            case 4:
                return text.size;
            default:
                return within(what, 5, 4 + RECORDS) ? records[what - 5].size : BAD;
        }
    }

    public int tape(int tape, int sort, int n) {
        if (!isTape(tape)) {
            return NONE;
        }
        if (!within(sort, NO_ROW, BOOLEANS) || (sort != NO_ROW && n > TAPE_ITEMS)) {
            return BAD;
        }
        if (sort != NO_ROW && n < 0) {
            return SIZE;
        }
        tapes[tape].become(sort, sort == NO_ROW ? 0 : n);
        return 1;
    }

    public int item(int tape, int i, long v) {
        if (!isTape(tape)) {
            return NONE;
        }
        if (tapes[tape].sort == NO_ROW) {
            return NOTHING;
        }
        if (!tapes[tape].hasPlace(i)) {
            return PLACE;
        }
        tapes[tape].items[i] = tapes[tape].asItem(v);
        return 1;
    }

    public long peek(int tape, int i) {
        if (!isTape(tape) || !tapes[tape].hasPlace(i)) {
            return NO;
        }
        return tapes[tape].items[i];
    }

    public int shift(int tape, int i, int other, int j, int n) {
        if (!isTape(tape) || !isTape(other)) {
            return NONE;
        }
        Tape source = tapes[tape];
        Tape target = tapes[other];
        if (source.sort == NO_ROW || target.sort == NO_ROW) {
            return NOTHING;
        }
        if (source.sort != target.sort) {
            return CAST;
        }
        if (!source.hasRange(i, n) || !target.hasRange(j, n)) {
            return PLACE;
        }
        System.arraycopy(source.items, i, target.items, j, n);
        return n;
    }

    // ---- what the calls share

    private static boolean within(int v, int least, int most) {
        return v >= least && v <= most;
    }

    private static boolean isState(int state) {
        return within(state, 0, STATES - 1);
    }

    private static boolean isTape(int tape) {
        return within(tape, 0, TAPES - 1);
    }

    private boolean isStore(int store) {
        return within(store, 0, now.basin.cap);
    }

    private boolean canReplay(int record, int store, int by) {
        return within(record, 0, RECORDS - 1) && isStore(store) && within(by, 0, RELEASE_MOST);
    }

    private boolean canBeWorth(int what, int k) {
        switch (what) {
            case 0:
                return now.basin.hasDemand(k);
            case 1:
                return true;
            case 2:
                return within(k, 0, MONTHS - 1);
            default:
                return false;
        }
    }

    /** Whether a KIND is another one or stands under it, at any depth. */
    private static boolean isUnder(int kind, int above) {
        int at = kind;
        for (int depth = 0; depth < KIND_ABOVE.length && within(at, PLAIN, TRICKLE); depth++) {
            if (at == above) {
                return true;
            }
            at = KIND_ABOVE[at];
        }
        return false;
    }

    /** The best rows and what fits are found once and kept until something they hang on may have changed. */
    private void forgetFound() {
        nowSolved = false;
        fitsFound = false;
    }

    private void solveNow() {
        if (!nowSolved) {
            nowRows.fillGains(now.basin, 0);
            nowRows.sweep(now.basin, 0);
            nowSolved = true;
        }
    }

    private void solveThought() {
        thoughtRows.fillGains(thought, 0);
        thoughtRows.sweep(thought, 0);
    }

    private void goThrough(int record, int store, int by, int n) {
        if (by == 0) {
            solveNow();
        }
        course.go(now.basin, nowRows, records[record], store, by, n);
    }

    private void findFits() {
        if (fitsFound) {
            return;
        }
        fitsFound = true;
        fitCount = 0;
        fitLeast = NOT_ANY;
        int earliest = now.basin.horizon;
        for (int row = 0; row < now.seen.size; row++) {
            if (!now.basin.isAhead(now.seen.at(row, 0), now.seen.at(row, 1))) {
                return;
            }
            earliest = Math.min(earliest, now.seen.at(row, 0));
        }
        thought.copyFrom(now.basin);
        thoughtRows.fillGains(thought, earliest);
        for (int left = LEFT_TRIED; left >= 0; left--) {
            thought.left = left;
            thoughtRows.sweep(thought, earliest);
            if (goesAsSeen(thoughtRows)) {
                fitCount++;
                fitLeast = left;
            }
        }
    }

    private boolean goesAsSeen(BestRows rows) {
        Lines seen = now.seen;
        for (int row = 0; row < seen.size; row++) {
            if (rows.releaseAt(seen.at(row, 0), seen.at(row, 1), seen.at(row, 2)) != seen.at(row, 3)) {
                return false;
            }
        }
        return true;
    }

    /** The greatest one; of 0 and a number that is the number itself. */
    private static int commonDivisor(int a, int b) {
        int greatest = 1;
        for (int d = 2; d <= a; d++) {
            if (a % d == 0 && b % d == 0) {
                greatest = d;
            }
        }
        return greatest;
    }

    /**
     * The bits of a float, as an int's. The library's own function for this is outside the language rules,
     * so the exponent is counted out by exact doublings and halvings.
     */
    private static int bitsOf(float f) {
        if (f == 0f) {
            return 0;
        }
        float rest = f < 0f ? -f : f;
        int exponent = 127;
        while (rest >= 2f && exponent < 254) {
            rest = rest / 2f;
            exponent++;
        }
        while (rest < 1f && exponent > 1) {
            rest = rest * 2f;
            exponent--;
        }
        int fraction = (int) (rest * 8388608f) - 8388608;
        return (f < 0f ? 1 << 31 : 0) + (exponent << 23) + fraction;
    }

    /** A DEMAND. Made ahead and filled in later, so that dropping and copying make no objects. */
    private static final class Demand {
        int kind = PLAIN;
        int rank = 0;
        int wants = 1;
        int worth = 0;
        int from = 0;
        int to = 0;

        void copyFrom(Demand other) {
            kind = other.kind;
            rank = other.rank;
            wants = other.wants;
            worth = other.worth;
            from = other.from;
            to = other.to;
        }

        int tell(int what) {
            switch (what) {
                case 0:
                    return kind;
                case 1:
                    return rank;
                case 2:
                    return wants;
                case 3:
                    return worth;
                case 4:
                    return from;
                case 5:
                    return to;
                default:
                    return NONE;
            }
        }

        int wantedIn(int month) {
            boolean isIn = from <= to ? month >= from && month <= to : month >= from || month <= to;
            if (!isIn) {
                return 0;
            }
            return kind == SUMMER && within(month, 5, 8) ? 2 * wants : wants;
        }

        int gainOf(int got, int wanted) {
            int plain = got * worth;
            int firm = plain - (wanted - got) * worth;
            switch (kind) {
                case FIRM:
                    return firm;
                case STEPPED:
                    return wanted > 0 && got == wanted ? firm + worth / 2 : firm;
                case TRICKLE:
                    return trickleOf(got);
                default:
                    return plain;
            }
        }

        private int trickleOf(int got) {
            int sum = 0;
            int unit = worth;
            for (int k = 0; k < got && unit > 0; k++) {
                sum += unit;
                unit = unit / 2;
            }
            return sum;
        }
    }

    /** The reservoir with its DEMANDS: all that BEST hangs on. */
    private static final class Basin {
        int cap = 8;
        int horizon = 6;
        int harm = 2;
        int left = 3;
        final int[] inflows = new int[MONTHS * STATES];
        final int[] parts = new int[STATES * STATES];
        final int[] dries = new int[MONTHS];
        final int[] floods = new int[MONTHS];
        final Demand[] demands = new Demand[DEMANDS];
        final int[] byRank = new int[DEMANDS];
        int size = 0;

        Basin() {
            for (int month = 0; month < MONTHS; month++) {
                inflows[month * STATES] = 1;
                inflows[month * STATES + 1] = 2;
                inflows[month * STATES + 2] = 4;
            }
            for (int k = 0; k < STATES * STATES; k++) {
                parts[k] = 1;
            }
            for (int k = 0; k < DEMANDS; k++) {
                demands[k] = new Demand();
            }
        }

        void copyFrom(Basin other) {
            cap = other.cap;
            horizon = other.horizon;
            harm = other.harm;
            left = other.left;
            System.arraycopy(other.inflows, 0, inflows, 0, MONTHS * STATES);
            System.arraycopy(other.parts, 0, parts, 0, STATES * STATES);
            System.arraycopy(other.dries, 0, dries, 0, MONTHS);
            System.arraycopy(other.floods, 0, floods, 0, MONTHS);
            System.arraycopy(other.byRank, 0, byRank, 0, DEMANDS);
            size = other.size;
            for (int k = 0; k < DEMANDS; k++) {
                demands[k].copyFrom(other.demands[k]);
            }
        }

        int settingOf(int what) {
            switch (what) {
                case 0:
                    return cap;
                case 1:
                    return horizon;
                case 2:
                    return harm;
                case 3:
                    return left;
                default:
                    return NONE;
            }
        }

        int changeSetting(int what, int v) {
            if (!within(what, 0, 3)) {
                return NONE;
            }
            if (!within(v, SETTING_LEAST[what], SETTING_MOST[what])) {
                return BAD;
            }
            int was = settingOf(what);
            switch (what) {
                case 0:
                    cap = v;
                    break;
                case 1:
                    horizon = v;
                    break;
                case 2:
                    harm = v;
                    break;
                default:
                    left = v;
                    break;
            }
            return was;
        }

        int changeInflow(int month, int state, int v) {
            if (!within(month, 0, MONTHS - 1) || !isState(state)) {
                return NONE;
            }
            if (!within(v, 0, UNITS_MOST)) {
                return BAD;
            }
            int was = inflows[month * STATES + state];
            inflows[month * STATES + state] = v;
            return was;
        }

        int changePart(int from, int to, int v) {
            if (!isState(from) || !isState(to)) {
                return NONE;
            }
            int was = parts[from * STATES + to];
            if (!within(v, 0, DIGIT_MOST) || allPartsFrom(from) - was + v == 0) {
                return BAD;
            }
            parts[from * STATES + to] = v;
            return was;
        }

        /** All three at once: a row that ends well may not be refused for what stands midway. */
        boolean changeParts(int from, int dry, int mean, int wet) {
            if (!isState(from) || dry + mean + wet == 0) {
                return false;
            }
            parts[from * STATES] = dry;
            parts[from * STATES + 1] = mean;
            parts[from * STATES + 2] = wet;
            return true;
        }

        int changeMonth(int month, int what, int v) {
            if (!within(month, 0, MONTHS - 1) || !within(what, 0, 1)) {
                return NONE;
            }
            if (!within(v, 0, DIGIT_MOST)) {
                return BAD;
            }
            int[] row = what == 0 ? dries : floods;
            int was = row[month];
            row[month] = v;
            return was;
        }

        int addDemand(int kind, int rank, int wants, int worth, int from, int to) {
            if (!within(kind, PLAIN, TRICKLE) || !within(from, 0, MONTHS - 1) || !within(to, 0, MONTHS - 1)
                    || !isFit(0, rank) || !isFit(1, wants) || !isFit(2, worth)) {
                return BAD;
            }
            if (size >= DEMANDS) {
                return FULL;
            }
            Demand d = demands[size];
            d.kind = kind;
            d.rank = rank;
            d.wants = wants;
            d.worth = worth;
            d.from = from;
            d.to = to;
            size++;
            sortByRank();
            return size - 1;
        }

        private static boolean isFit(int what, int v) {
            return within(v, RENEW_LEAST[what], RENEW_MOST[what]);
        }

        int changeDemand(int demand, int what, int v) {
            if (!hasDemand(demand) || !within(what, 0, 2)) {
                return NONE;
            }
            if (!isFit(what, v)) {
                return BAD;
            }
            Demand d = demands[demand];
            int was = d.tell(what + 1);
            switch (what) {
                case 0:
                    d.rank = v;
                    sortByRank();
                    break;
                case 1:
                    d.wants = v;
                    break;
                default:
                    d.worth = v;
                    break;
            }
            return was;
        }

        int removeDemand(int demand) {
            if (!hasDemand(demand)) {
                return NONE;
            }
            for (int k = demand; k < size - 1; k++) {
                demands[k].copyFrom(demands[k + 1]);
            }
            size--;
            sortByRank();
            return size;
        }

        /** One that wants nothing gets, gains and lacks nothing: it is none, and the others keep their numbers. */
        void silence(int demand) {
            if (hasDemand(demand)) {
                demands[demand].wants = 0;
            }
        }

        void goByPlan(int what, int v) {
            switch (what) {
                case 0:
                    cap = v;
                    break;
                case 1:
                    for (int month = 0; month < MONTHS; month++) {
                        dries[month] = v;
                    }
                    break;
                case 2:
                    harm = v;
                    break;
                default:
                    silence(v);
                    break;
            }
        }

        void learnParts(Lines flows) {
            for (int k = 0; k < STATES * STATES; k++) {
                parts[k] = 1;
            }
            for (int k = 0; k < flows.size - 1; k++) {
                int from = nearestState(k % MONTHS, flows.at(k, 0));
                int to = nearestState((k + 1) % MONTHS, flows.at(k + 1, 0));
                parts[from * STATES + to] = Math.min(DIGIT_MOST, parts[from * STATES + to] + 1);
            }
        }

        boolean hasDemand(int demand) {
            return within(demand, 0, size - 1);
        }

        boolean isAhead(int month, int store) {
            return within(month, 0, horizon - 1) && within(store, 0, cap);
        }

        int inflowIn(int month, int state) {
            return inflows[month * STATES + state];
        }

        int allPartsFrom(int from) {
            return parts[from * STATES] + parts[from * STATES + 1] + parts[from * STATES + 2];
        }

        int nearestState(int month, int units) {
            int nearest = 0;
            for (int state = 1; state < STATES; state++) {
                if (Math.abs(inflowIn(month, state) - units) < Math.abs(inflowIn(month, nearest) - units)) {
                    nearest = state;
                }
            }
            return nearest;
        }

        int topOf(int month) {
            return cap > floods[month] ? cap - floods[month] : 0;
        }

        int driedIn(int month, int store) {
            return store * dries[month] / 10;
        }

        int placeByRank(int demand) {
            int place = 0;
            for (int k = 0; k < size; k++) {
                if (demands[k].rank < demands[demand].rank || (demands[k].rank == demands[demand].rank && k < demand)) {
                    place++;
                }
            }
            return place;
        }

        private void sortByRank() {
            for (int k = 0; k < size; k++) {
                byRank[placeByRank(k)] = k;
            }
        }

        int gotBy(int demand, int month, int x) {
            int rest = x;
            for (int place = 0; place < size; place++) {
                int got = Math.min(demands[byRank[place]].wantedIn(month), rest);
                if (byRank[place] == demand) {
                    return got;
                }
                rest -= got;
            }
            return 0;
        }

        int gainsOf(int month, int x) {
            int rest = x;
            int sum = 0;
            for (int place = 0; place < size; place++) {
                Demand d = demands[byRank[place]];
                int wanted = d.wantedIn(month);
                int got = Math.min(wanted, rest);
                sum += d.gainOf(got, wanted);
                rest -= got;
            }
            return sum;
        }
    }

    /** Rows of whole numbers of one width, up to so many of them. */
    private static final class Lines {
        final int width;
        final int limit;
        final int[] cells;
        int size = 0;

        Lines(int width, int limit) {
            this.width = width;
            this.limit = limit;
            cells = new int[width * limit];
        }

        int clear() {
            size = 0;
            return size;
        }

        int add(int a) {
            return add(a, 0, 0, 0);
        }

        int add(int a, int b) {
            return add(a, b, 0, 0);
        }

        int add(int a, int b, int c) {
            return add(a, b, c, 0);
        }

        int add(int a, int b, int c, int d) {
            if (size >= limit) {
                return FULL;
            }
            size++;
            setInLast(0, a);
            setInLast(1, b);
            setInLast(2, c);
            setInLast(3, d);
            return size;
        }

        /** A column that these rows don't have is passed over, so that one way of adding serves all widths. */
        private void setInLast(int column, int v) {
            if (column < width) {
                cells[(size - 1) * width + column] = v;
            }
        }

        /** NONE where there is no such row, so that a reader may look beyond the end. */
        int at(int row, int column) {
            if (!within(row, 0, size - 1) || !within(column, 0, width - 1)) {
                return NONE;
            }
            return cells[row * width + column];
        }

        void copyFrom(Lines other) {
            int many = Math.min(cells.length, other.cells.length);
            System.arraycopy(other.cells, 0, cells, 0, many);
            size = Math.min(other.size, limit);
        }
    }

    /** What THE IMAGE keeps. */
    private static final class Setting {
        final Basin basin = new Basin();
        final Lines seen = new Lines(4, SEEN_ROWS);
        final Lines plan = new Lines(2, PLAN_ROWS);
        final Lines book = new Lines(3, BOOK_ROWS);

        void copyFrom(Setting other) {
            basin.copyFrom(other.basin);
            seen.copyFrom(other.seen);
            plan.copyFrom(other.plan);
            book.copyFrom(other.book);
        }
    }

    /** BEST and RELEASE of every MONTH, STORE and STATE, found from the HORIZON backwards. */
    private static final class BestRows {
        private final float[] bests = new float[(MONTHS + 1) * STORES * STATES];
        private final float[] means = new float[(MONTHS + 1) * STORES * STATES];
        private final int[] releases = new int[MONTHS * STORES * STATES];
        /** GAINS of each MONTH by units released: they hang neither on the STORE nor on LEFT. */
        private final int[] gains = new int[MONTHS * RELEASES];

        private static int spot(int month, int store, int state) {
            return (month * STORES + store) * STATES + state;
        }

        float bestAt(int month, int store, int state) {
            return bests[spot(month, store, state)];
        }

        int releaseAt(int month, int store, int state) {
            return releases[spot(month, store, state)];
        }

        float comesTo(Basin basin, int month, int store, int state, int r) {
            int there = store - basin.driedIn(month, store) + basin.inflowIn(month, state);
            return valueOf(basin, month, state, there - Math.min(r, there), Math.min(r, there));
        }

        void fillGains(Basin basin, int from) {
            for (int month = from; month < basin.horizon; month++) {
                for (int x = 0; x < RELEASES; x++) {
                    gains[month * RELEASES + x] = basin.gainsOf(month, x);
                }
            }
        }

        /** Needs the gains; goes back no farther than the MONTH that is asked for. */
        void sweep(Basin basin, int from) {
            for (int store = 0; store <= basin.cap; store++) {
                for (int state = 0; state < STATES; state++) {
                    bests[spot(basin.horizon, store, state)] = (float) basin.left * (float) store;
                }
            }
            for (int month = basin.horizon - 1; month >= from; month--) {
                fillMeans(basin, month + 1);
                for (int store = 0; store <= basin.cap; store++) {
                    for (int state = 0; state < STATES; state++) {
                        choose(basin, month, store, state);
                    }
                }
            }
        }

        private void fillMeans(Basin basin, int month) {
            for (int from = 0; from < STATES; from++) {
                float all = (float) basin.allPartsFrom(from);
                for (int store = 0; store <= basin.cap; store++) {
                    float sum = 0f;
                    for (int to = 0; to < STATES; to++) {
                        sum = sum + (float) basin.parts[from * STATES + to] * bests[spot(month, store, to)];
                    }
                    means[spot(month, store, from)] = sum / all;
                }
            }
        }

        /** A release above what is THERE is one of all that is THERE, so none of those is the least. */
        private void choose(Basin basin, int month, int store, int state) {
            int there = store - basin.driedIn(month, store) + basin.inflowIn(month, state);
            int most = Math.min(RELEASE_MOST, there);
            float greatest = valueOf(basin, month, state, there, 0);
            int least = 0;
            for (int r = 1; r <= most; r++) {
                float value = valueOf(basin, month, state, there - r, r);
                if (value > greatest) {
                    greatest = value;
                    least = r;
                }
            }
            bests[spot(month, store, state)] = greatest;
            releases[spot(month, store, state)] = least;
        }

        private float valueOf(Basin basin, int month, int state, int rest, int released) {
            int next = Math.min(rest, basin.topOf(month));
            int yielded = gains[month * RELEASES + released] - basin.harm * (rest - next);
            return (float) yielded + means[spot(month + 1, next, state)];
        }
    }

    /** The chain of STATES: odds months on, THE WAY. */
    private static final class Chain {
        private final float[] odds = new float[STATES * STATES];
        private float[] being = new float[STATES];
        private float[] coming = new float[STATES];
        /** A STATE and those of the MONTHS behind it, and the CHANCE up to each of them. */
        private final int[] trail = new int[WAY_MOST + 1];
        private final float[] chances = new float[WAY_MOST + 1];
        final int[] likeliest = new int[WAY_MOST];
        float greatest = 0f;

        void load(Basin basin) {
            for (int from = 0; from < STATES; from++) {
                float all = (float) basin.allPartsFrom(from);
                for (int to = 0; to < STATES; to++) {
                    odds[from * STATES + to] = (float) basin.parts[from * STATES + to] / all;
                }
            }
        }

        float oddsAfter(int n, int from, int to) {
            for (int state = 0; state < STATES; state++) {
                being[state] = state == from ? 1f : 0f;
            }
            for (int month = 0; month < n; month++) {
                for (int next = 0; next < STATES; next++) {
                    float sum = 0f;
                    for (int state = 0; state < STATES; state++) {
                        sum = sum + being[state] * odds[state * STATES + next];
                    }
                    coming[next] = sum;
                }
                float[] spent = being;
                being = coming;
                coming = spent;
            }
            return being[to];
        }

        /** Trails come by turn, the least STATES first, so of several alike the one that stands is the least. */
        void findLikeliest(int from, int n) {
            int last = Math.min(n, WAY_MOST);
            for (int place = 1; place <= last; place++) {
                trail[place] = 0;
            }
            trail[0] = from;
            chances[0] = 1f;
            greatest = -1f;
            int fresh = 1;
            for (int k = 0; k < TRAILS && fresh > 0; k++) {
                int hopeless = weighFrom(fresh, last);
                if (hopeless > last) {
                    greatest = chances[last];
                    System.arraycopy(trail, 1, likeliest, 0, last);
                }
                fresh = turnOn(Math.min(hopeless, last));
            }
        }

        /**
         * The first place up to which a trail is no likelier than one found already: odds are never above 1, so
         * it can't become so. One behind the last if there is none.
         */
        private int weighFrom(int fresh, int last) {
            for (int place = fresh; place <= last; place++) {
                chances[place] = chances[place - 1] * odds[trail[place - 1] * STATES + trail[place]];
                if (chances[place] <= greatest) {
                    return place;
                }
            }
            return last + 1;
        }

        /** The next trail, as one counts: the place from which on it is another one; 0 if that was the last. */
        private int turnOn(int from) {
            for (int place = from; place > 0; place--) {
                if (trail[place] < STATES - 1) {
                    trail[place]++;
                    return place;
                }
                trail[place] = 0;
            }
            return 0;
        }
    }

    /** One MONTH gone through with a flow and a told release. */
    private static final class Passage {
        int dried = 0;
        int there = 0;
        int released = 0;
        int spilled = 0;
        int next = 0;
        int yielded = 0;

        void go(Basin basin, int month, int store, int q, int r) {
            dried = basin.driedIn(month, store);
            there = store - dried + q;
            released = Math.min(r, there);
            int rest = there - released;
            next = Math.min(rest, basin.topOf(month));
            spilled = rest - next;
            yielded = basin.gainsOf(month, released) - basin.harm * spilled;
        }

        long tell(int what) {
            switch (what) {
                case 0:
                    return dried;
                case 1:
                    return there;
                case 2:
                    return released;
                case 3:
                    return spilled;
                case 4:
                    return next;
                case 5:
                    return yielded;
                default:
                    return NO;
            }
        }
    }

    /** A RECORD REPLAYED. */
    private static final class Course {
        private final Passage passage = new Passage();
        final int[] stores = new int[RECORD_MONTHS + 1];
        private final int[] releases = new int[RECORD_MONTHS];
        int months = 0;
        private int yielded = 0;
        private int spilled = 0;
        private int dried = 0;
        private int released = 0;

        /** The rows are looked at by 0 alone; only then need they be solved. */
        void go(Basin basin, BestRows rows, Lines flows, int store, int by, int n) {
            months = Math.min(n, flows.size);
            yielded = 0;
            spilled = 0;
            dried = 0;
            released = 0;
            stores[0] = store;
            for (int k = 0; k < months; k++) {
                int month = k % MONTHS;
                int q = flows.at(k, 0);
                int r = by == 0 ? bestRelease(basin, rows, month, stores[k], q) : by;
                passage.go(basin, month, stores[k], q, r);
                yielded += passage.yielded;
                spilled += passage.spilled;
                dried += passage.dried;
                released += passage.released;
                releases[k] = passage.released;
                stores[k + 1] = passage.next;
            }
        }

        private static int bestRelease(Basin basin, BestRows rows, int month, int store, int q) {
            if (!basin.isAhead(month, store)) {
                return 0;
            }
            return rows.releaseAt(month, store, basin.nearestState(month, q));
        }

        private int leastStore() {
            int least = stores[0];
            for (int k = 1; k <= months; k++) {
                least = Math.min(least, stores[k]);
            }
            return least;
        }

        long tell(int what) {
            switch (what) {
                case 0:
                    return stores[months];
                case 1:
                    return yielded;
                case 2:
                    return spilled;
                case 3:
                    return dried;
                case 4:
                    return released;
                case 5:
                    return leastStore();
                default:
                    return NO;
            }
        }

        int monthsWanting(Basin basin, int demand) {
            int many = 0;
            for (int k = 0; k < months; k++) {
                if (basin.demands[demand].wantedIn(k % MONTHS) > 0) {
                    many++;
                }
            }
            return many;
        }

        int monthsMet(Basin basin, int demand) {
            int many = 0;
            for (int k = 0; k < months; k++) {
                int wanted = basin.demands[demand].wantedIn(k % MONTHS);
                if (wanted > 0 && basin.gotBy(demand, k % MONTHS, releases[k]) == wanted) {
                    many++;
                }
            }
            return many;
        }
    }

    /** A set-up read from THE TEXT: all CLAUSES are taken first, and done only if there is no FAULT. */
    private static final class Clauses {
        /** Of each CLAUSE its letter, then its numbers. */
        private final int[] values = new int[CLAUSES * CLAUSE_WIDTH];
        private int size = 0;
        private int place = 0;

        /** The FAULT; NOT_ANY without one. */
        int takeAll(Lines text) {
            size = 0;
            place = 0;
            while (size < CLAUSES) {
                if (!takeClause(text)) {
                    return place;
                }
                size++;
                if (place >= text.size) {
                    return NOT_ANY;
                }
                if (text.at(place, 0) != ';' || size == CLAUSES) {
                    return place;
                }
                place++;
            }
            return place;
        }

        /** What stands behind a letter: 1 a digit, 2 one or two digits, else the sign itself. */
        private static String formOf(int letter) {
            switch (letter) {
                case 'd':
                    return "1112.2.2";
                case 'q':
                    return "2.111";
                case 'p':
                    return "1111";
                case 'e':
                case 'f':
                    return "2.1";
                case 'c':
                    return "2";
                default:
                    return "";
            }
        }

        private boolean takeClause(Lines text) {
            int letter = text.at(place, 0);
            String form = formOf(letter);
            if (form.isEmpty()) {
                return false;
            }
            values[size * CLAUSE_WIDTH] = letter;
            place++;
            int slot = 1;
            for (int k = 0; k < form.length(); k++) {
                char sign = form.charAt(k);
                if (sign == '.') {
                    if (text.at(place, 0) != '.') {
                        return false;
                    }
                    place++;
                } else {
                    if (!takeNumber(text, sign == '2', slot)) {
                        return false;
                    }
                    slot++;
                }
            }
            return true;
        }

        private boolean takeNumber(Lines text, boolean mayBeTwo, int slot) {
            if (!isDigit(text.at(place, 0)) || slot >= CLAUSE_WIDTH) {
                return false;
            }
            int number = text.at(place, 0) - '0';
            place++;
            if (mayBeTwo && isDigit(text.at(place, 0))) {
                number = number * 10 + text.at(place, 0) - '0';
                place++;
            }
            values[size * CLAUSE_WIDTH + slot] = number;
            return true;
        }

        private static boolean isDigit(int sign) {
            return within(sign, '0', '9');
        }

        /** How many were not refused. */
        int doAll(Basin basin) {
            int many = 0;
            for (int k = 0; k < size; k++) {
                if (isDone(basin, k * CLAUSE_WIDTH)) {
                    many++;
                }
            }
            return many;
        }

        private boolean isDone(Basin basin, int at) {
            int a = values[at + 1];
            int b = values[at + 2];
            int c = values[at + 3];
            int d = values[at + 4];
            switch (values[at]) {
                case 'd':
                    return basin.addDemand(a, b, c, d, values[at + 5], values[at + 6]) >= 0;
                case 'q':
                    return basin.changeInflow(a, 0, b) >= 0 && basin.changeInflow(a, 1, c) >= 0
                            && basin.changeInflow(a, 2, d) >= 0;
                case 'p':
                    return basin.changeParts(a, b, c, d);
                case 'e':
                    return basin.changeMonth(a, 0, b) >= 0;
                case 'f':
                    return basin.changeMonth(a, 1, b) >= 0;
                default:
                    return basin.changeSetting(0, a) >= 0;
            }
        }
    }

    /** A TAPE. Items of every sort are held as longs, cut to what an item of the sort holds as they come. */
    private static final class Tape {
        int sort = NO_ROW;
        int size = 0;
        final long[] items = new long[TAPE_ITEMS];

        void become(int newSort, int newSize) {
            sort = newSort;
            size = newSize;
            for (int k = 0; k < TAPE_ITEMS; k++) {
                items[k] = 0L;
            }
        }

        boolean hasPlace(int i) {
            return within(i, 0, size - 1);
        }

        /** Written as a difference, since i + n may be beyond what an int holds. */
        boolean hasRange(int i, int n) {
            return i >= 0 && n >= 0 && n <= size - i;
        }

        long asItem(long v) {
            switch (sort) {
                case 0:
                    return (byte) v;
                case 1:
                    return (short) v;
                case 2:
                    return (int) v;
                case LONGS:
                    return v;
                default:
                    return v != 0L ? 1L : 0L;
            }
        }
    }
}
