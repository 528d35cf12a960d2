/**
 * Bridges by which a purse becomes so many times what it was, less a toll.
 * The promises, and the words in capitals, stand in ../shared/DOC.md.
 */
public final class DoubledBridge {
    public static final int BAD = -1, FULL = -2, NONE = -3, STATE = -4;

    private static final int NOTHING = -11, OUTSIDE = -12, OTHER_SORT = -13, BELOW_ZERO = -14, BY_ZERO = -15;
    private static final int NO_LAST = -9, NO_ROW = -9;
    private static final int FAULT_BASE = -100;

    /** Stands in place of a purse where something can't be crossed. */
    private static final int CANNOT = -1;

    private static final int MOST_COINS = 1000000000;
    private static final int MOST_TIMES = 9, MOST_TOLL = 999, LAST_DAY = 6;
    private static final int MOST_BRIDGES = 9, MOST_PEOPLE = 6, MOST_TALES = 6;
    private static final int MOST_BYTES = 200, MOST_CLAUSES = 8, MOST_NUMBER_DIGITS = 4, MOST_OPEN = 3;
    private static final int MOST_CROSSINGS = 60, MOST_BACK = 6, MOST_DEVIL = 20, MOST_LUCK = 4;
    private static final int MOST_ROWS = 20, ROW_PARTS = 3;
    private static final int MOST_ASKED = 99999, MOST_SCANNED = 9999;
    private static final int SHEETS = 4, MOST_ITEMS = 40, MOST_WALKED = 20, SHELVES = 4, MOST_BODIES = 30;
    private static final int HUNDRED = 100, RATE_BASE = 1000;

    private static final int ANY_BRIDGE = 0, PLAIN = 1, STREAM = 2, MILL = 3, EGG = 4, MARKET = 5;
    private static final int BYTES = 0, SHORTS = 1, BOOLEANS = 4, SORT_BASE = 10;
    private static final int NO_DEED = -1, FREE = 0, DEAR = 1, DOUBLE = 2, SHUT = 3;

    private final Road now = new Road();
    private final Road kept = new Road();
    private boolean isKept = false;

    private final int[] tape = new int[MOST_BYTES];
    private int tapeSize = 0;

    private final int[] rows = new int[MOST_ROWS * ROW_PARTS];
    private int rowCount = 0;

    private final Row[] sheets = new Row[SHEETS];
    private final int[] shelfBridges = {CANNOT, CANNOT, CANNOT, CANNOT};
    private final Row[] shelfRows = new Row[SHELVES];
    private final Trace trace = new Trace();

    // Made once and used by every call: the room of a run counts each new one.
    private final int[] bestOf = new int[1 << MOST_BRIDGES];
    private final int[] leastOf = new int[1 << MOST_BRIDGES];
    private final int[] leastSteps = new int[MOST_CROSSINGS + 1];

    public DoubledBridge() {
    }

    // ---- the road

    public int bridge(int kind, int times, int toll, int feast) {
        if (!isBuilt(kind) || !isTimes(times) || !isToll(toll) || !isDay(feast)) {
            return BAD;
        }
        return now.build(kind, times, toll, feast);
    }

    public int bridgeOf(int b, int what) {
        Bridge it = now.bridgeAt(b);
        if (it == null) {
            return BAD;
        }
        switch (what) {
            case 0: return it.kind;
            case 1: return it.times;
            case 2: return it.toll;
            case 3: return it.feast;
            case 4: return it.timesNow;
            case 5: return it.tollNow;
            case 6: return it.open ? 1 : 0;
            default: return BAD;
        }
    }

    public int change(int b, int what, int v) {
        Bridge it = now.bridgeAt(b);
        if (it == null) {
            return BAD;
        }
        int was = BAD;
        if (what == 1 && isTimes(v)) {
            was = it.times;
            it.times = v;
        } else if (what == 2 && isToll(v)) {
            was = it.toll;
            it.toll = v;
        } else if (what == 3 && isDay(v)) {
            was = it.feast;
            it.feast = v;
        }
        it.settle(now.law, now.day);
        return was;
    }

    public int mend(int b, int kind) {
        Bridge it = now.bridgeAt(b);
        if (it == null || !isBuilt(kind)) {
            return BAD;
        }
        now.replace(b, made(kind, b, it.times, it.toll, it.feast));
        return it.kind;
    }

    public int day(int v) {
        if (!isDay(v)) {
            return BAD;
        }
        int was = now.day;
        now.day = v;
        now.settle();
        return was;
    }

    // ---- the law

    public int feed(long eight, int n) {
        if (n < 1 || n > 8) {
            return BAD;
        }
        if (tapeSize + n > MOST_BYTES) {
            return FULL;
        }
        for (int i = 0; i < n && tapeSize < tape.length; i++) {
            tape[tapeSize] = (int) (eight >>> (8 * i)) & 255;
            tapeSize++;
        }
        return tapeSize;
    }

    public int law() {
        LawReader reader = new LawReader(tape, tapeSize);
        tapeSize = 0;
        reader.next();
        // One round more than there may be clauses, so that the ninth is refused.
        for (int i = 0; i <= MOST_CLAUSES && reader.sort != LawReader.END; i++) {
            if (!reader.readClause()) {
                return FAULT_BASE - reader.fault;
            }
        }
        now.law = reader.law;
        now.settle();
        return now.law.count;
    }

    // ---- people

    public int person(int purse) {
        if (!isPurse(purse)) {
            return BAD;
        }
        return now.welcome(purse);
    }

    public int personOf(int p, int what) {
        if (!now.isPerson(p)) {
            return BAD;
        }
        switch (what) {
            case 0: return now.purses[p];
            case 1: return now.crossed[p];
            case 2: return now.last[p];
            default: return BAD;
        }
    }

    public int purse(int p, int v) {
        if (!now.isPerson(p) || !isPurse(v)) {
            return BAD;
        }
        int was = now.purses[p];
        now.purses[p] = v;
        return was;
    }

    public int cross(int p, int b) {
        Bridge over = now.bridgeAt(b);
        if (!now.isPerson(p) || over == null) {
            return BAD;
        }
        int behind = over.becomes(now.purses[p]);
        if (behind < 0) {
            return STATE;
        }
        now.arrive(p, behind, b);
        return behind;
    }

    public int pool(int p, int q, int b) {
        Bridge over = now.bridgeAt(b);
        if (!now.isPerson(p) || !now.isPerson(q) || p == q || over == null) {
            return BAD;
        }
        int first = now.purses[p];
        long both = (long) first + now.purses[q];
        if (both > MOST_COINS || both <= 0) {
            return STATE;
        }
        int behind = over.becomes((int) both);
        if (behind < 0) {
            return STATE;
        }
        int part = (int) ((long) behind * first / both);
        now.arrive(p, part, b);
        now.arrive(q, behind - part, b);
        return part;
    }

    public int gives(int p, int q, int n) {
        if (!now.isPerson(p) || !now.isPerson(q) || p == q || n < 1 || n > MOST_COINS) {
            return BAD;
        }
        long then = (long) now.purses[q] + n;
        if (now.purses[p] < n || then > MOST_COINS) {
            return STATE;
        }
        now.purses[p] -= n;
        now.purses[q] = (int) then;
        return (int) then;
    }

    // ---- crossings

    public int after(int b, int purse, int n) {
        Bridge over = now.bridgeAt(b);
        if (over == null || !isPurse(purse) || !isIn(n, 0, MOST_CROSSINGS)) {
            return BAD;
        }
        int behind = behindAll(over, purse, n);
        return behind < 0 ? NONE : behind;
    }

    public int need(int b, int n) {
        Bridge over = now.bridgeAt(b);
        if (over == null || !isIn(n, 0, MOST_CROSSINGS)) {
            return BAD;
        }
        int least = leastAheadAll(over, 0, n);
        return least < 0 ? NONE : least;
    }

    public int ever(int b) {
        Bridge over = now.bridgeAt(b);
        if (over == null) {
            return BAD;
        }
        for (int purse = 0; purse <= MOST_SCANNED; purse++) {
            // What can't be crossed is below 0, so below every purse.
            if (over.becomes(purse) >= purse) {
                return purse;
            }
        }
        return NONE;
    }

    public int same(int b) {
        Bridge over = now.bridgeAt(b);
        if (over == null) {
            return BAD;
        }
        for (int purse = 0; purse <= MOST_SCANNED; purse++) {
            if (over.becomes(purse) == purse) {
                return purse;
            }
        }
        return NONE;
    }

    public int few(int b, int purse, int goal) {
        Bridge over = now.bridgeAt(b);
        if (over == null || !isPurse(purse) || !isPurse(goal)) {
            return BAD;
        }
        int has = purse;
        for (int n = 0; n <= MOST_CROSSINGS && has >= 0; n++) {
            if (has >= goal) {
                return n;
            }
            has = over.becomes(has);
        }
        return NONE;
    }

    public int back(int b, int purse, int n, int i) {
        Bridge over = now.bridgeAt(b);
        if (over == null || !isIn(purse, 0, MOST_ASKED) || !isIn(n, 1, MOST_BACK) || i < -1) {
            return BAD;
        }
        // Who has more ahead never has less behind: so those asked for stand side by side,
        // from the least that reaches the purse to the least that reaches more.
        int from = leastAheadAll(over, purse, n);
        int to = leastAheadAll(over, purse + 1, n);
        int found = from < 0 || to < from ? 0 : to - from;
        if (i == -1) {
            return found;
        }
        return i < found ? from + i : NONE;
    }

    // ---- orders

    public int rich(int purse, int set) {
        if (!isPurse(purse) || !now.isSet(set)) {
            return BAD;
        }
        int most = richest(purse, set);
        return most < 0 ? NONE : most;
    }

    public int order(int purse, int set, int i) {
        if (!isPurse(purse) || !now.isSet(set) || !isIn(i, 0, MOST_BRIDGES - 1)) {
            return BAD;
        }
        int most = richest(purse, set);
        if (most < 0 || i >= Integer.bitCount(set)) {
            return NONE;
        }
        poorest(most, set);
        int has = purse;
        int left = set;
        for (int step = 0; step < i; step++) {
            int b = firstInOrder(has, left);
            has = behindOf(b, has);
            left &= ~(1 << b);
        }
        int found = firstInOrder(has, left);
        return found < 0 ? NONE : found;
    }

    public int poor(int set) {
        if (!now.isSet(set)) {
            return BAD;
        }
        int least = poorest(0, set);
        return least < 0 ? NONE : least;
    }

    public int fast(int purse, int goal) {
        if (!isPurse(purse) || !isPurse(goal)) {
            return BAD;
        }
        int n = fewest(purse, goal);
        return n < 0 ? NONE : n;
    }

    public int by(int purse, int goal, int i) {
        if (!isPurse(purse) || !isPurse(goal) || !isIn(i, 0, MOST_CROSSINGS - 1)) {
            return BAD;
        }
        int n = fewest(purse, goal);
        if (i >= n) {
            return NONE;
        }
        fillLeastSteps(goal, n);
        int has = purse;
        for (int step = 0; step < i; step++) {
            has = behindOf(firstInRow(has, n - step - 1), has);
        }
        int found = firstInRow(has, n - i - 1);
        return found < 0 ? NONE : found;
    }

    public int swap(int a, int b, int purse) {
        Bridge one = now.bridgeAt(a);
        Bridge other = now.bridgeAt(b);
        if (one == null || other == null || a == b || !isPurse(purse)) {
            return BAD;
        }
        int oneFirst = other.becomes(one.becomes(purse));
        int otherFirst = one.becomes(other.becomes(purse));
        if (oneFirst == otherFirst) {
            return 0;
        }
        return oneFirst > otherFirst ? 1 : 2;
    }

    // ---- the devil, loans, luck

    public int devil(int b, int purse, int n) {
        Bridge over = now.bridgeAt(b);
        if (over == null || !isIn(purse, 0, MOST_ASKED) || !isIn(n, 1, MOST_DEVIL)) {
            return BAD;
        }
        Bridge tried = over.twin();
        // The law may ask by the toll, so a lower toll isn't always a better one: each is tried.
        for (int toll = MOST_TOLL; toll >= 0; toll--) {
            tried.toll = toll;
            tried.settle(now.law, now.day);
            if (behindAll(tried, purse, n) >= purse) {
                return toll;
            }
        }
        return NONE;
    }

    public int rate(int b, int purse, int loan) {
        Bridge over = now.bridgeAt(b);
        if (over == null || !isIn(purse, 0, MOST_ASKED) || !isIn(loan, 1, MOST_ASKED)) {
            return BAD;
        }
        long alone = over.becomes(purse);
        long together = over.becomes(purse + loan);
        if (alone < 0) {
            return NONE;
        }
        return (int) ((together - alone - loan) * HUNDRED / loan) + RATE_BASE;
    }

    public long worth(int b, int purse, int h, int n) {
        Bridge over = now.bridgeAt(b);
        if (over == null || !isLuck(purse, h, n)) {
            return BAD;
        }
        return worthOf(over, purse, h, n);
    }

    public int stops(int b, int purse, int h, int n) {
        Bridge over = now.bridgeAt(b);
        if (over == null || !isLuck(purse, h, n)) {
            return BAD;
        }
        return purse * hundredTo(n) >= worthOfCrossing(over, purse, h, n) ? 1 : 0;
    }

    public int meet(int p, int q, int b, int c) {
        Bridge overB = now.bridgeAt(b);
        Bridge overC = now.bridgeAt(c);
        if (!now.isPerson(p) || !now.isPerson(q) || p == q || overB == null || overC == null) {
            return BAD;
        }
        int first = now.purses[p];
        int second = now.purses[q];
        boolean firstHasLess = first <= second;
        for (int n = 0; n <= MOST_CROSSINGS && first >= 0 && second >= 0; n++) {
            if (firstHasLess ? first >= second : second >= first) {
                return n;
            }
            first = overB.becomes(first);
            second = overC.becomes(second);
        }
        return NONE;
    }

    // ---- tales

    public int tale(int from, int to) {
        if (!isIn(from, 0, MOST_ASKED) || !isIn(to, 0, MOST_ASKED)) {
            return BAD;
        }
        return now.hear(from, to);
    }

    public int forget() {
        int were = now.tales;
        now.tales = 0;
        return were;
    }

    public int fits(int kind, int what) {
        if (!isGuessed(kind) || !isIn(what, 0, 2)) {
            return BAD;
        }
        Bridge guess = made(kind, 0, 1, 0, 0);
        int found = 0;
        for (int times = 1; times <= MOST_TIMES; times++) {
            for (int toll = 0; toll <= MOST_TOLL; toll++) {
                guess.suppose(times, toll);
                if (now.lies(guess) != Road.NO_LIE) {
                    continue;
                }
                if (what != 0) {
                    return what == 1 ? times : toll;
                }
                found++;
            }
        }
        return what == 0 ? found : NONE;
    }

    public int liar(int kind) {
        if (!isGuessed(kind)) {
            return BAD;
        }
        Bridge guess = made(kind, 0, 1, 0, 0);
        int least = MOST_TALES;
        for (int times = 1; times <= MOST_TIMES; times++) {
            for (int toll = 0; toll <= MOST_TOLL; toll++) {
                guess.suppose(times, toll);
                int lie = now.lies(guess);
                if (lie == Road.NO_LIE) {
                    return NONE;
                }
                if (lie != Road.MANY_LIES) {
                    least = Math.min(least, lie);
                }
            }
        }
        return least < MOST_TALES ? least : NONE;
    }

    // ---- rows

    public int prove(int b, int purse, int n) {
        Bridge over = now.bridgeAt(b);
        if (over == null || !isPurse(purse) || !isIn(n, 1, MOST_ROWS)) {
            return BAD;
        }
        rowCount = 0;
        int has = purse;
        for (int i = 0; i < n; i++) {
            int behind = over.becomes(has);
            if (behind < 0) {
                break;
            }
            rowCount = i + 1;
            setRowPart(i, 0, i + 1);
            setRowPart(i, 1, has);
            setRowPart(i, 2, behind);
            has = behind;
        }
        return rowCount;
    }

    public int row(int i, int what) {
        return isRowPart(i, what) ? rowPart(i, what) : NO_ROW;
    }

    public int alterRow(int i, int what, int v) {
        if (!isRowPart(i, what)) {
            return NO_ROW;
        }
        int was = rowPart(i, what);
        setRowPart(i, what, v);
        return was;
    }

    public int judge(int b) {
        Bridge over = now.bridgeAt(b);
        if (over == null) {
            return BAD;
        }
        for (int i = 0; i < rowCount; i++) {
            if (!isRightRow(i, over)) {
                return i + 1;
            }
        }
        return 0;
    }

    // ---- the host

    public int sheet(int sheet, int sort, int n) {
        if (!isIn(sheet, 0, SHEETS - 1) || !isIn(sort, -1, BOOLEANS)) {
            return BAD;
        }
        if (sort == -1) {
            sheets[sheet] = null;
            return 1;
        }
        if (n > MOST_ITEMS) {
            return BAD;
        }
        if (n < 0) {
            return BELOW_ZERO;
        }
        sheets[sheet] = new Row(sort, n);
        return 1;
    }

    public int write(int sheet, int i, int v) {
        if (!isIn(sheet, 0, SHEETS - 1)) {
            return BAD;
        }
        Row on = sheets[sheet];
        if (on == null) {
            return NOTHING;
        }
        if (!on.has(i)) {
            return OUTSIDE;
        }
        on.set(i, v);
        return 1;
    }

    public int item(int sheet, int sort, int i) {
        if (!isIn(sheet, 0, SHEETS - 1) || !isIn(sort, BYTES, BOOLEANS)) {
            return BAD;
        }
        Row on = sheets[sheet];
        if (on == null) {
            return NOTHING;
        }
        if (on.sort != sort) {
            return OTHER_SORT;
        }
        return on.has(i) ? on.get(i) : OUTSIDE;
    }

    public int walks(int p, int sheet, int i, int n) {
        if (!now.isPerson(p) || !isIn(sheet, 0, SHEETS - 1) || !isIn(n, 0, MOST_WALKED)) {
            return BAD;
        }
        Row on = sheets[sheet];
        if (on == null) {
            return NOTHING;
        }
        if (on.sort != BYTES) {
            return OTHER_SORT;
        }
        int walked = 0;
        for (int k = 0; k < n; k++) {
            if (!on.has(i + k)) {
                return OUTSIDE;
            }
            if (cross(p, on.get(i + k)) >= 0) {
                walked++;
            }
        }
        return walked;
    }

    public int shelf(int shelf, int what, int n) {
        if (!isIn(shelf, 0, SHELVES - 1) || !isIn(what, 0, 2)) {
            return BAD;
        }
        if (what == 0 && now.bridgeAt(n) == null) {
            return BAD;
        }
        if (what == 1 && !isIn(n, 0, SHEETS - 1)) {
            return BAD;
        }
        shelfBridges[shelf] = what == 0 ? n : CANNOT;
        shelfRows[shelf] = what == 1 ? sheets[n] : null;
        return 1;
    }

    public int taken(int shelf, int as) {
        boolean asBridge = isIn(as, ANY_BRIDGE, MARKET);
        boolean asRow = isIn(as, SORT_BASE + BYTES, SORT_BASE + BOOLEANS);
        if (!isIn(shelf, 0, SHELVES - 1) || !asBridge && !asRow) {
            return BAD;
        }
        Bridge bridge = now.bridgeAt(shelfBridges[shelf]);
        if (bridge != null) {
            return asBridge && isUnder(bridge.kind, as) ? bridge.number : OTHER_SORT;
        }
        Row row = shelfRows[shelf];
        if (row != null) {
            return asRow && row.sort == as - SORT_BASE ? row.size() : OTHER_SORT;
        }
        return NOTHING;
    }

    public int act(int shelf, int act, int x) {
        trace.clear();
        Bridge held = isIn(shelf, 0, SHELVES - 1) ? now.bridgeAt(shelfBridges[shelf]) : null;
        if (held == null) {
            return 0;
        }
        int answer = 0;
        switch (act) {
            case 0: answer = held.makes(x, trace); break;
            case 1: answer = held.takes(x, trace); break;
            case 2: answer = held.shares(x, trace); break;
            case 3: answer = held.tells(x, trace); break;
            default: break;
        }
        return trace.parted ? BY_ZERO : answer;
    }

    public int trace(int i) {
        return trace.bodyAt(i);
    }

    public int many(int what) {
        switch (what) {
            case 0: return now.bridgeCount;
            case 1: return now.people;
            case 2: return now.law.count;
            case 3: return now.tales;
            case 4: return rowCount;
            case 5: return tapeSize;
            case 6: return trace.count;
            default: return BAD;
        }
    }

    // ---- kept

    public int keep() {
        kept.copyFrom(now);
        isKept = true;
        return 1;
    }

    public int again() {
        if (!isKept) {
            return NONE;
        }
        now.copyFrom(kept);
        return now.bridgeCount;
    }

    // ---- what numbers may be

    private static boolean isIn(int v, int least, int most) {
        return v >= least && v <= most;
    }

    private static boolean isPurse(int v) {
        return isIn(v, 0, MOST_COINS);
    }

    private static boolean isBuilt(int kind) {
        return isIn(kind, PLAIN, MARKET);
    }

    private static boolean isGuessed(int kind) {
        return kind == PLAIN || kind == STREAM || kind == EGG;
    }

    private static boolean isTimes(int v) {
        return isIn(v, 1, MOST_TIMES);
    }

    private static boolean isToll(int v) {
        return isIn(v, 0, MOST_TOLL);
    }

    private static boolean isDay(int v) {
        return isIn(v, 0, LAST_DAY);
    }

    private static boolean isLuck(int purse, int h, int n) {
        return isIn(purse, 0, MOST_SCANNED) && isIn(h, 0, HUNDRED) && isIn(n, 0, MOST_LUCK);
    }

    /** Whether a kind is another one, or under it. */
    private static boolean isUnder(int kind, int other) {
        return other == ANY_BRIDGE || other == kind
            || other == STREAM && kind == MILL || other == EGG && kind == MARKET;
    }

    private static int entryOf(int[] row, int i) {
        return i >= 0 && i < row.length ? row[i] : CANNOT;
    }

    // ---- one bridge again and again

    private static int behindAll(Bridge over, int purse, int n) {
        int has = purse;
        for (int i = 0; i < n && has >= 0; i++) {
            has = over.becomes(has);
        }
        return has;
    }

    /** The least purse that is a goal or more behind n crossings. */
    private static int leastAheadAll(Bridge over, int goal, int n) {
        int least = goal;
        for (int i = 0; i < n && least >= 0; i++) {
            least = over.leastAhead(least);
        }
        return least;
    }

    // ---- orders: more ahead is never less behind, so of each part only the best counts

    /** Fills bestOf for all parts of a set: the greatest purse that some order of the part makes. */
    private int richest(int purse, int set) {
        bestOf[0] = purse;
        for (int part = 1; part <= set && part < bestOf.length; part++) {
            if ((part & ~set) == 0) {
                bestOf[part] = bestByLast(part);
            }
        }
        return entryOf(bestOf, set);
    }

    private int bestByLast(int part) {
        int most = CANNOT;
        for (int b = 0; b < MOST_BRIDGES; b++) {
            if ((part >> b & 1) != 0) {
                most = Math.max(most, behindOf(b, entryOf(bestOf, part & ~(1 << b))));
            }
        }
        return most;
    }

    /** Fills leastOf for all parts of a set: the least purse that some order of the part makes a goal or more. */
    private int poorest(int goal, int set) {
        leastOf[0] = goal;
        for (int part = 1; part <= set && part < leastOf.length; part++) {
            if ((part & ~set) == 0) {
                leastOf[part] = leastByFirst(part);
            }
        }
        return entryOf(leastOf, set);
    }

    private int leastByFirst(int part) {
        int least = CANNOT;
        for (int b = 0; b < MOST_BRIDGES; b++) {
            if ((part >> b & 1) != 0) {
                least = lesser(least, leastAheadOf(b, entryOf(leastOf, part & ~(1 << b))));
            }
        }
        return least;
    }

    /** The first bridge of those left by which the goal of leastOf can still be had. */
    private int firstInOrder(int has, int left) {
        for (int b = 0; b < MOST_BRIDGES; b++) {
            if ((left >> b & 1) != 0 && suffices(behindOf(b, has), entryOf(leastOf, left & ~(1 << b)))) {
                return b;
            }
        }
        return CANNOT;
    }

    /** The fewest crossings by any bridges behind which a purse can be a goal or more. */
    private int fewest(int purse, int goal) {
        int has = purse;
        for (int n = 0; n <= MOST_CROSSINGS && has >= 0; n++) {
            if (has >= goal) {
                return n;
            }
            has = bestByAny(has);
        }
        return CANNOT;
    }

    private int bestByAny(int purse) {
        int most = CANNOT;
        for (int b = 0; b < now.bridgeCount; b++) {
            most = Math.max(most, behindOf(b, purse));
        }
        return most;
    }

    /** Fills leastSteps: the least purse that some n crossings make a goal or more. */
    private void fillLeastSteps(int goal, int n) {
        leastSteps[0] = goal;
        for (int i = 1; i <= n && i < leastSteps.length; i++) {
            int least = CANNOT;
            for (int b = 0; b < now.bridgeCount; b++) {
                least = lesser(least, leastAheadOf(b, leastSteps[i - 1]));
            }
            leastSteps[i] = least;
        }
    }

    /** The first bridge by which the goal of leastSteps can still be had in so many crossings behind it. */
    private int firstInRow(int has, int crossings) {
        for (int b = 0; b < now.bridgeCount; b++) {
            if (suffices(behindOf(b, has), entryOf(leastSteps, crossings))) {
                return b;
            }
        }
        return CANNOT;
    }

    private int behindOf(int b, int purse) {
        Bridge over = now.bridgeAt(b);
        return over == null ? CANNOT : over.becomes(purse);
    }

    private int leastAheadOf(int b, int goal) {
        Bridge over = now.bridgeAt(b);
        return over == null ? CANNOT : over.leastAhead(goal);
    }

    private static int lesser(int one, int other) {
        if (one < 0 || other < 0) {
            return Math.max(one, other);
        }
        return Math.min(one, other);
    }

    private static boolean suffices(int has, int least) {
        return least >= 0 && has >= least;
    }

    // ---- luck

    private static long worthOf(Bridge over, int purse, int h, int n) {
        return Math.max(purse * hundredTo(n), worthOfCrossing(over, purse, h, n));
    }

    /** The mean of what one has who crosses now, times 100 to the power n; CANNOT if one can't. */
    private static long worthOfCrossing(Bridge over, int purse, int h, int n) {
        int usual = over.becomes(purse);
        if (n < 1 || usual < 0) {
            return CANNOT;
        }
        int lucky = over.becomesBy(over.timesNow + 1, purse);
        return h * worthOf(over, lucky, h, n - 1) + (HUNDRED - h) * worthOf(over, usual, h, n - 1);
    }

    private static long hundredTo(int n) {
        long power = 1;
        for (int i = 0; i < n; i++) {
            power *= HUNDRED;
        }
        return power;
    }

    // ---- rows

    private boolean isRowPart(int i, int what) {
        return i >= 0 && i < rowCount && isIn(what, 0, ROW_PARTS - 1);
    }

    private int rowPart(int i, int what) {
        return entryOf(rows, i * ROW_PARTS + what);
    }

    private void setRowPart(int i, int what, int v) {
        int place = i * ROW_PARTS + what;
        if (place >= 0 && place < rows.length) {
            rows[place] = v;
        }
    }

    private boolean isRightRow(int i, Bridge over) {
        int ahead = rowPart(i, 1);
        boolean follows = i == 0 ? isPurse(ahead) : ahead == rowPart(i - 1, 2);
        int behind = over.becomes(ahead);
        return rowPart(i, 0) == i + 1 && follows && behind >= 0 && behind == rowPart(i, 2);
    }

    // ---- bridges

    private static Bridge made(int kind, int number, int times, int toll, int feast) {
        switch (kind) {
            case STREAM: return new Stream(STREAM, number, times, toll, feast);
            case MILL: return new Mill(number, times, toll, feast);
            case EGG: return new Egg(EGG, number, times, toll, feast);
            case MARKET: return new Market(number, times, toll, feast);
            default: return new Plain(number, times, toll, feast);
        }
    }

    /** A bridge as it was told, and as THE LAW and the DAY have it now. */
    private abstract static class Bridge {
        final int kind;
        final int number;
        int times;
        int toll;
        int feast;
        int timesNow;
        int tollNow;
        boolean open;

        /** As told; what it is now is for settle() or suppose() to say. */
        Bridge(int kind, int number, int times, int toll, int feast) {
            this.kind = kind;
            this.number = number;
            this.times = times;
            this.toll = toll;
            this.feast = feast;
        }

        Bridge twin() {
            return made(kind, number, times, toll, feast);
        }

        void settle(Law law, int day) {
            int clause = law.clauseFor(this, day);
            int deed = law.deedOf(clause);
            open = deed != SHUT;
            timesNow = deed == DOUBLE ? times + 1 : times;
            tollNow = deed == FREE ? 0 : toll + law.dearerBy(clause);
            if (day == feast) {
                feasts();
            }
        }

        /** What the day of the feast changes. */
        void feasts() {
        }

        /** A guess by tales is open and asks no law. */
        void suppose(int supposedTimes, int supposedToll) {
            timesNow = supposedTimes;
            tollNow = supposedToll;
            open = true;
        }

        int becomes(int purse) {
            return becomesBy(timesNow, purse);
        }

        int becomesBy(int byTimes, int purse) {
            if (!open || purse < 0) {
                return CANNOT;
            }
            long behind = coins(byTimes, purse);
            return behind < 0 ? CANNOT : (int) Math.min(behind, MOST_COINS);
        }

        /** The least purse that becomes a goal or more. */
        int leastAhead(int goal) {
            if (!open || goal < 0) {
                return CANNOT;
            }
            long least = leastCoins(goal);
            return least > MOST_COINS ? CANNOT : (int) least;
        }

        /** What a purse becomes without any most; below 0 if it can't be crossed. */
        long coins(int byTimes, long purse) {
            return byTimes * purse - tollNow;
        }

        long leastCoins(long goal) {
            return quotientUp(goal + tollNow);
        }

        /** Coins by the times of now, cut upwards. */
        long quotientUp(long coins) {
            return timesNow < 1 ? coins : (coins + timesNow - 1) / timesNow;
        }

        int makes(int x, Trace trace) {
            trace.begin(10);
            return x + number;
        }

        int takes(int x, Trace trace) {
            trace.begin(11);
            return makes(x, trace) * 2;
        }

        int shares(int x, Trace trace) {
            trace.begin(12);
            int by = feast - number;
            if (by == 0) {
                trace.part();
                return 0;
            }
            return x / by;
        }

        int tells(int x, Trace trace) {
            trace.begin(13);
            return takes(x, trace) ^ feast;
        }
    }

    private static final class Plain extends Bridge {
        Plain(int number, int times, int toll, int feast) {
            super(PLAIN, number, times, toll, feast);
        }

        int makes(int x, Trace trace) {
            trace.begin(20);
            return super.makes(x, trace) * 3;
        }
    }

    private static class Stream extends Bridge {
        Stream(int kind, int number, int times, int toll, int feast) {
            super(kind, number, times, toll, feast);
        }

        long coins(int byTimes, long purse) {
            return byTimes * (purse - tollNow);
        }

        long leastCoins(long goal) {
            return quotientUp(goal) + tollNow;
        }

        int takes(int x, Trace trace) {
            trace.begin(30);
            return super.takes(x, trace) - feast;
        }
    }

    private static final class Mill extends Stream {
        Mill(int number, int times, int toll, int feast) {
            super(MILL, number, times, toll, feast);
        }

        void feasts() {
            timesNow++;
        }

        int makes(int x, Trace trace) {
            trace.begin(50);
            return super.makes(x, trace) ^ number;
        }

        int tells(int x, Trace trace) {
            trace.begin(51);
            return super.tells(x, trace) + shares(number, trace);
        }
    }

    private static class Egg extends Bridge {
        Egg(int kind, int number, int times, int toll, int feast) {
            super(kind, number, times, toll, feast);
        }

        long coins(int byTimes, long purse) {
            long plain = super.coins(byTimes, purse);
            return plain - (plain & 1);
        }

        long leastCoins(long goal) {
            return super.leastCoins(goal + (goal & 1));
        }

        int shares(int x, Trace trace) {
            trace.begin(40);
            return super.shares(x + 1, trace);
        }
    }

    private static final class Market extends Egg {
        Market(int number, int times, int toll, int feast) {
            super(MARKET, number, times, toll, feast);
        }

        void feasts() {
            tollNow /= 2;
        }

        int takes(int x, Trace trace) {
            trace.begin(60);
            return 0 - super.takes(x, trace);
        }

        int shares(int x, Trace trace) {
            trace.begin(61);
            return super.shares(x, trace) + makes(feast, trace);
        }
    }

    /** The numbers of the bodies that ran in one act. */
    private static final class Trace {
        final int[] bodies = new int[MOST_BODIES];
        int count = 0;
        boolean parted = false;

        void clear() {
            count = 0;
            parted = false;
        }

        void begin(int body) {
            // Behind a parting by 0 no body runs any more.
            if (!parted && count < bodies.length) {
                bodies[count] = body;
                count++;
            }
        }

        void part() {
            parted = true;
        }

        int bodyAt(int i) {
            return i >= 0 && i < count && i < bodies.length ? bodies[i] : NONE;
        }
    }

    /** A sheet's row. Only ints are written, so an int holds an item of longs, too. */
    private static final class Row {
        final int sort;
        private final int[] items;

        Row(int sort, int n) {
            this.sort = sort;
            this.items = new int[Math.max(0, Math.min(n, MOST_ITEMS))];
        }

        int size() {
            return items.length;
        }

        boolean has(int i) {
            return i >= 0 && i < items.length;
        }

        int get(int i) {
            return has(i) ? items[i] : OUTSIDE;
        }

        void set(int i, int v) {
            if (has(i)) {
                items[i] = narrowed(v);
            }
        }

        private int narrowed(int v) {
            switch (sort) {
                case BYTES: return (byte) v;
                case SHORTS: return (short) v;
                case BOOLEANS: return v != 0 ? 1 : 0;
                default: return v;
            }
        }
    }

    /** All that is kept: BRIDGES, DAY, LAW, PEOPLE, TALES. */
    private static final class Road {
        static final int NO_LIE = -1, MANY_LIES = -2;

        private final Bridge[] bridges = new Bridge[MOST_BRIDGES];
        int bridgeCount = 0;
        int day = 0;
        Law law = new Law();
        final int[] purses = new int[MOST_PEOPLE];
        final int[] crossed = new int[MOST_PEOPLE];
        final int[] last = new int[MOST_PEOPLE];
        int people = 0;
        private final int[] from = new int[MOST_TALES];
        private final int[] to = new int[MOST_TALES];
        int tales = 0;

        Bridge bridgeAt(int b) {
            return b >= 0 && b < bridgeCount && b < bridges.length ? bridges[b] : null;
        }

        boolean isPerson(int p) {
            return p >= 0 && p < people && p < MOST_PEOPLE;
        }

        boolean isSet(int set) {
            return set >= 0 && set < 1 << bridgeCount;
        }

        int build(int kind, int times, int toll, int feast) {
            if (bridgeCount >= bridges.length) {
                return FULL;
            }
            int number = bridgeCount;
            bridgeCount++;
            replace(number, made(kind, number, times, toll, feast));
            return number;
        }

        void replace(int b, Bridge it) {
            if (b >= 0 && b < bridges.length) {
                bridges[b] = it;
                it.settle(law, day);
            }
        }

        /** Has every bridge as the law and the day have it. */
        void settle() {
            for (int b = 0; b < bridgeCount; b++) {
                Bridge it = bridgeAt(b);
                if (it != null) {
                    it.settle(law, day);
                }
            }
        }

        int welcome(int purse) {
            if (people >= MOST_PEOPLE) {
                return FULL;
            }
            int number = people;
            purses[number] = purse;
            crossed[number] = 0;
            last[number] = NO_LAST;
            people++;
            return number;
        }

        void arrive(int p, int behind, int b) {
            if (isPerson(p)) {
                purses[p] = behind;
                crossed[p]++;
                last[p] = b;
            }
        }

        int hear(int taleFrom, int taleTo) {
            if (tales >= MOST_TALES) {
                return FULL;
            }
            int number = tales;
            from[number] = taleFrom;
            to[number] = taleTo;
            tales++;
            return number;
        }

        /** The only tale that a guess doesn't agree with; NO_LIE, MANY_LIES. */
        int lies(Bridge guess) {
            int lie = NO_LIE;
            for (int i = 0; i < tales && i < MOST_TALES; i++) {
                if (guess.becomes(from[i]) == to[i]) {
                    continue;
                }
                if (lie != NO_LIE) {
                    return MANY_LIES;
                }
                lie = i;
            }
            return lie;
        }

        void copyFrom(Road other) {
            bridgeCount = 0;
            day = other.day;
            law = other.law;
            for (int b = 0; b < other.bridgeCount; b++) {
                Bridge it = other.bridgeAt(b);
                if (it != null) {
                    build(it.kind, it.times, it.toll, it.feast);
                }
            }
            people = other.people;
            System.arraycopy(other.purses, 0, purses, 0, MOST_PEOPLE);
            System.arraycopy(other.crossed, 0, crossed, 0, MOST_PEOPLE);
            System.arraycopy(other.last, 0, last, 0, MOST_PEOPLE);
            tales = other.tales;
            System.arraycopy(other.from, 0, from, 0, MOST_TALES);
            System.arraycopy(other.to, 0, to, 0, MOST_TALES);
        }
    }

    /** A law as it was read; it is never changed then, so it can be kept as it is. */
    private static final class Law {
        static final int LESS = 0, EQUAL = 1, MORE = 2, NOT = 3, AND = 4, OR = 5;
        static final int DAY_FACT = -1, TIMES_FACT = -2, TOLL_FACT = -3, FEAST_FACT = -4, NUMBER_FACT = -5;
        // A step takes two bytes of the text at least.
        static final int MOST_STEPS = MOST_BYTES / 2;

        int count = 0;
        private final int[] kinds = new int[MOST_CLAUSES];
        private final int[] deeds = new int[MOST_CLAUSES];
        private final int[] dearer = new int[MOST_CLAUSES];
        private final int[] firstSteps = new int[MOST_CLAUSES];
        private final int[] endSteps = new int[MOST_CLAUSES];
        // The conditions, the parts of each step ahead of it.
        private final int[] steps = new int[MOST_STEPS];
        private final int[] lefts = new int[MOST_STEPS];
        private final int[] rights = new int[MOST_STEPS];
        int stepCount = 0;

        void addStep(int step, int left, int right) {
            if (stepCount < steps.length && stepCount < lefts.length && stepCount < rights.length) {
                steps[stepCount] = step;
                lefts[stepCount] = left;
                rights[stepCount] = right;
                stepCount++;
            }
        }

        void addClause(int kind, int deed, int more, int firstStep) {
            if (isClause(count, MOST_CLAUSES)) {
                kinds[count] = kind;
                deeds[count] = deed;
                dearer[count] = more;
                firstSteps[count] = firstStep;
                endSteps[count] = stepCount;
                count++;
            }
        }

        private static boolean isClause(int clause, int clauses) {
            return clause >= 0 && clause < clauses && clause < MOST_CLAUSES;
        }

        /** The first clause that changes a bridge; below 0 if none does. */
        int clauseFor(Bridge it, int day) {
            for (int i = 0; i < count && i < MOST_CLAUSES; i++) {
                if (isUnder(it.kind, kinds[i]) && holds(firstSteps[i], endSteps[i], it, day)) {
                    return i;
                }
            }
            return -1;
        }

        int deedOf(int clause) {
            return isClause(clause, count) ? deeds[clause] : NO_DEED;
        }

        int dearerBy(int clause) {
            return isClause(clause, count) ? dearer[clause] : 0;
        }

        /** Whether a condition holds; one without steps always does. */
        private boolean holds(int firstStep, int endStep, Bridge it, int day) {
            // What the steps answered, the latest as the lowest bit.
            long answers = 1;
            for (int i = firstStep; i >= 0 && i < endStep && i < MOST_STEPS; i++) {
                long latest = answers & 1;
                switch (steps[i]) {
                    case NOT: answers ^= 1; break;
                    case AND: answers = answers >> 1 & (latest | -2); break;
                    case OR: answers = answers >> 1 | latest; break;
                    default:
                        boolean so = compares(steps[i], factOf(lefts[i], it, day), factOf(rights[i], it, day));
                        answers = answers << 1 | (so ? 1 : 0);
                        break;
                }
            }
            return (answers & 1) != 0;
        }

        private static boolean compares(int sign, int left, int right) {
            switch (sign) {
                case LESS: return left < right;
                case EQUAL: return left == right;
                default: return left > right;
            }
        }

        private static int factOf(int value, Bridge it, int day) {
            switch (value) {
                case DAY_FACT: return day;
                case TIMES_FACT: return it.times;
                case TOLL_FACT: return it.toll;
                case FEAST_FACT: return it.feast;
                case NUMBER_FACT: return it.number;
                default: return value;
            }
        }
    }

    /** Reads the text of a law: one NAME, NUMBER or other byte (a token) at a time. */
    private static final class LawReader {
        static final int END = 0, NAME = 1, NUMBER = 2, OTHER = 3, BLANK = 4;
        private static final int NO_VALUE = -9;

        final Law law = new Law();
        int fault = 0;
        int sort = END;
        private final int[] text;
        private final int size;
        private int start = 0;
        private int end = 0;

        LawReader(int[] text, int size) {
            this.text = text;
            this.size = size;
        }

        void next() {
            start = end;
            while (start < size && sortAt(start) == BLANK) {
                start++;
            }
            sort = sortAt(start);
            end = sort == END ? start : start + 1;
            while (end < size && (sort == NAME || sort == NUMBER) && sortAt(end) == sort) {
                end++;
            }
        }

        boolean readClause() {
            int kind = kindHere();
            if (kind < 0 || law.count >= MOST_CLAUSES) {
                return refuse();
            }
            next();
            int firstStep = law.stepCount;
            if (isName("if")) {
                next();
                if (!readAnyOf(0)) {
                    return false;
                }
            }
            int deed = deedHere();
            if (deed == NO_DEED) {
                return refuse();
            }
            next();
            int dearer = 0;
            if (deed == DEAR) {
                dearer = numberHere();
                if (!isToll(dearer)) {
                    return refuse();
                }
                next();
            }
            if (!isByte(';')) {
                return refuse();
            }
            next();
            law.addClause(kind, deed, dearer, firstStep);
            return true;
        }

        /** COND of the document, within so many open "(". */
        private boolean readAnyOf(int open) {
            if (!readAllOf(open)) {
                return false;
            }
            for (int i = 0; i < MOST_BYTES && isName("or"); i++) {
                next();
                if (!readAllOf(open)) {
                    return false;
                }
                law.addStep(Law.OR, 0, 0);
            }
            return true;
        }

        /** ALL of the document. */
        private boolean readAllOf(int open) {
            if (!readOne(open)) {
                return false;
            }
            for (int i = 0; i < MOST_BYTES && isName("and"); i++) {
                next();
                if (!readOne(open)) {
                    return false;
                }
                law.addStep(Law.AND, 0, 0);
            }
            return true;
        }

        /** ONE of the document. */
        private boolean readOne(int open) {
            boolean turned = false;
            for (int i = 0; i < MOST_BYTES && isName("not"); i++) {
                turned = !turned;
                next();
            }
            if (!(isByte('(') ? readWithin(open) : readComparison())) {
                return false;
            }
            if (turned) {
                law.addStep(Law.NOT, 0, 0);
            }
            return true;
        }

        private boolean readWithin(int open) {
            if (open >= MOST_OPEN) {
                return refuse();
            }
            next();
            if (!readAnyOf(open + 1)) {
                return false;
            }
            if (!isByte(')')) {
                return refuse();
            }
            next();
            return true;
        }

        private boolean readComparison() {
            int left = valueHere();
            if (left == NO_VALUE) {
                return refuse();
            }
            next();
            int sign = isByte('<') ? Law.LESS : isByte('=') ? Law.EQUAL : isByte('>') ? Law.MORE : NO_VALUE;
            if (sign == NO_VALUE) {
                return refuse();
            }
            next();
            int right = valueHere();
            if (right == NO_VALUE) {
                return refuse();
            }
            next();
            law.addStep(sign, left, right);
            return true;
        }

        private boolean refuse() {
            fault = start;
            return false;
        }

        private int kindHere() {
            if (isName("bridge")) {
                return ANY_BRIDGE;
            }
            if (isName("plain")) {
                return PLAIN;
            }
            if (isName("stream")) {
                return STREAM;
            }
            if (isName("mill")) {
                return MILL;
            }
            if (isName("egg")) {
                return EGG;
            }
            return isName("market") ? MARKET : -1;
        }

        private int deedHere() {
            if (isName("free")) {
                return FREE;
            }
            if (isName("dear")) {
                return DEAR;
            }
            if (isName("double")) {
                return DOUBLE;
            }
            return isName("shut") ? SHUT : NO_DEED;
        }

        private int valueHere() {
            if (sort == NUMBER) {
                int number = numberHere();
                return number < 0 ? NO_VALUE : number;
            }
            if (isName("day")) {
                return Law.DAY_FACT;
            }
            if (isName("times")) {
                return Law.TIMES_FACT;
            }
            if (isName("toll")) {
                return Law.TOLL_FACT;
            }
            if (isName("feast")) {
                return Law.FEAST_FACT;
            }
            return isName("number") ? Law.NUMBER_FACT : NO_VALUE;
        }

        /** The number that stands here; below 0 if none does, or one of too many digits. */
        private int numberHere() {
            if (sort != NUMBER || end - start > MOST_NUMBER_DIGITS) {
                return -1;
            }
            int number = 0;
            for (int i = start; i >= 0 && i < end && i < text.length; i++) {
                number = number * 10 + text[i] - '0';
            }
            return number;
        }

        private boolean isName(String name) {
            if (sort != NAME || end - start != name.length()) {
                return false;
            }
            for (int i = 0; i < name.length(); i++) {
                int place = start + i;
                if (place < 0 || place >= text.length || text[place] != name.charAt(i)) {
                    return false;
                }
            }
            return true;
        }

        private boolean isByte(char sign) {
            return sort == OTHER && start >= 0 && start < text.length && text[start] == sign;
        }

        private int sortAt(int place) {
            if (place < 0 || place >= size || place >= text.length) {
                return END;
            }
            int c = text[place];
            if (c >= 'a' && c <= 'z') {
                return NAME;
            }
            if (c >= '0' && c <= '9') {
                return NUMBER;
            }
            return c == ' ' ? BLANK : OTHER;
        }
    }
}
