/** Bells of a valley that lend each other strokes, and what they owe for them: README.md says how it is used. */
public final class BellDebts {
    public static final int NONE = -1000000, BAD = -1000001, STATE = -1000002, FULL = -1000003;

    private static final int NULL = 1, PLACE = 2, KIND = 3, SIZE = 4, STORE = 5;
    private static final int FOUND = -1000010, FAULTY = -1000100;

    private static final int ROWS = 8, ITEMS = 40, TAPE = 160, ACTS = 24, IMAGES = 2, TRACE = 16;
    private static final int BELLS = 6, SETS = 64;
    private static final int LAST_DAY = 999, MOST_SILENT = 9999, MOST_HAS = 99, FORESEEN = 60;

    private static final int BELL = 0, PARISH = 1, DEAF = 2, FIELD = 3, CATHEDRAL = 4, WEDDING = 5;

    private final Rows rows = new Rows();
    private final Tape tape = new Tape();
    private final Valley now = new Valley();
    private final Valley draft = new Valley();
    private final DayRun dayRun = new DayRun();
    private final Acts acts = new Acts();
    private final Valley[] images = new Valley[IMAGES];
    private final boolean[] imageKept = new boolean[IMAGES];
    private final Foresight foresight = new Foresight(now, dayRun);
    private final Settling settling = new Settling();
    private final Asker asker = new Asker(now);
    private int status;

    public BellDebts() {
        for (int k = 0; k < IMAGES; k++) {
            images[k] = new Valley();
        }
    }

    // ---- rows

    public int row(int row, int lane, int n) {
        if (!isRow(row) || !isWithin(lane, 0, 2) || n > ITEMS) {
            return BAD;
        }
        if (n < 0) {
            return found(SIZE);
        }
        rows.make(row, lane, n);
        return foundNothing(n);
    }

    public int set(int row, int i, int v) {
        if (!isRow(row)) {
            return BAD;
        }
        if (!rows.there[row]) {
            return found(NULL);
        }
        if (!rows.hasPlaces(row, i, 1)) {
            return found(PLACE);
        }
        return foundNothing(rows.put(row, i, v));
    }

    public int copy(int a, int i, int b, int j, int n) {
        if (!isRow(a) || !isRow(b)) {
            return BAD;
        }
        if (!rows.there[a] || !rows.there[b]) {
            return found(NULL);
        }
        if (rows.lanes[a] != rows.lanes[b]) {
            return found(STORE);
        }
        if (!rows.hasPlaces(a, i, n) || !rows.hasPlaces(b, j, n)) {
            return found(PLACE);
        }
        System.arraycopy(rows.items[a], i, rows.items[b], j, n);
        return foundNothing(n);
    }

    public int drop(int row) {
        if (!isRow(row)) {
            return BAD;
        }
        if (!rows.there[row]) {
            return found(NULL);
        }
        rows.there[row] = false;
        return foundNothing(rows.sizes[row]);
    }

    // ---- valleys, acts

    public int feed(int letter) {
        if (!isWithin(letter, 0, 255)) {
            return BAD;
        }
        return tape.takeByte(letter) ? tape.length : FULL;
    }

    public int valley() {
        if (!tape.readWhole(draft)) {
            return FAULTY - tape.faultPlace;
        }
        now.takeFrom(draft);
        acts.forgetAll();
        return now.bells;
    }

    public int fault() {
        return tape.faultNumber;
    }

    public int days(int n) {
        if (noValley()) {
            return STATE;
        }
        if (!isWithin(n, 1, 24)) {
            return BAD;
        }
        if (now.day + n > LAST_DAY) {
            return FULL;
        }
        for (int d = 0; d < n; d++) {
            acts.keep(now);
            dayRun.pass(now, 0);
        }
        return now.allOwed();
    }

    public int lend(int one, int other, int n) {
        if (!isPair(one, other) || !isWithin(n, 1, 9)) {
            return BAD;
        }
        acts.keep(now);
        now.addDebt(one, other, price(now.kinds[other], n));
        return now.owedTo(one, other);
    }

    public int pay(int one, int other, int n) {
        if (!isPair(one, other) || !isWithin(n, 1, 999)) {
            return BAD;
        }
        if (now.owedTo(one, other) == 0) {
            return STATE;
        }
        acts.keep(now);
        now.takeOff(one, other, n);
        return now.owedTo(one, other);
    }

    public int forgive(int one, int other) {
        if (!isPair(one, other)) {
            return BAD;
        }
        int quarters = now.owedTo(one, other);
        if (quarters == 0) {
            return STATE;
        }
        acts.keep(now);
        now.takeOff(one, other, quarters);
        return quarters;
    }

    public int mend(int bell, int v) {
        if (!isBell(bell) || !isWithin(v, 0, MOST_HAS)) {
            return BAD;
        }
        acts.keep(now);
        int before = now.has[bell];
        now.has[bell] = v;
        return before;
    }

    public int undo() {
        if (acts.count == 0) {
            return STATE;
        }
        acts.takeBack(now);
        return acts.count;
    }

    public int bell(int bell, int what) {
        if (!isBell(bell)) {
            return BAD;
        }
        switch (what) {
            case 0: return now.has[bell];
            case 1: return now.needs[bell];
            case 2: return now.silent[bell];
            case 3: return now.netOf(bell);
            case 4: return Math.max(0, now.strokesToday(bell) - now.wantsToday(bell));
            case 5: return Math.max(0, now.wantsToday(bell) - now.strokesToday(bell));
            default: return BAD;
        }
    }

    public int owes(int one, int other) {
        return isPair(one, other) ? now.owedTo(one, other) : BAD;
    }

    // ---- foretold

    public int ahead(int one, int other, int d) {
        if (!isPair(one, other) || !isWithin(d, 0, FORESEEN)) {
            return BAD;
        }
        return foresight.behindDays(d).owedTo(one, other);
    }

    public int later(int bell, int d, int what) {
        if (!isBell(bell) || !isWithin(d, 0, FORESEEN) || !isWithin(what, 0, 1)) {
            return BAD;
        }
        Valley then = foresight.behindDays(d);
        return what == 0 ? then.silent[bell] : then.netOf(bell);
    }

    public int even() {
        return noValley() ? STATE : foresight.daysUntilEven();
    }

    public int first(int what) {
        if (noValley()) {
            return STATE;
        }
        return isWithin(what, 0, 1) ? foresight.firstSilent(what) : BAD;
    }

    public int payments(int what) {
        if (noValley()) {
            return STATE;
        }
        if (!isWithin(what, 0, 1)) {
            return BAD;
        }
        return what == 0 ? settling.fewestPayments(now) : settling.leastQuarters(now);
    }

    public int circle(int what) {
        if (noValley()) {
            return STATE;
        }
        return isWithin(what, 0, 1) ? now.firstCircle(what) : BAD;
    }

    public int more(int bell, int n) {
        if (!isBell(bell) || !isWithin(n, 1, 30)) {
            return BAD;
        }
        return foresight.strokesMissing(bell, n);
    }

    public int fits(int one, int other, int row, int i, int n, int what) {
        if (!isPair(one, other) || !isRow(row) || !isWithin(n, 1, 12) || !isWithin(what, 0, 3)) {
            return BAD;
        }
        if (!rows.there[row]) {
            return found(NULL);
        }
        if (!rows.hasPlaces(row, i, n)) {
            return found(PLACE);
        }
        return foundNothing(foresight.fittingValues(one, other, rows.items[row], i, n, what));
    }

    public int stones(int bell, int c, int what) {
        if (!isBell(bell) || !isWithin(c, 0, 10) || !isWithin(what, 0, 1)) {
            return BAD;
        }
        int above = foresight.silentBySome(bell, c);
        int below = power(10, now.bells);
        int common = greatestDivisor(above, below);
        return (what == 0 ? above : below) / Math.max(1, common);
    }

    public int drawn(int n, int seed, int what) {
        if (noValley()) {
            return STATE;
        }
        if (!isWithin(n, 0, FORESEEN) || !isWithin(seed, 1, 999999) || !isWithin(what, 0, 1)) {
            return BAD;
        }
        Valley then = foresight.behindDrawnDays(n, seed);
        return what == 0 ? then.allSilent() - now.allSilent() : then.allOwed();
    }

    public int image(int k) {
        if (!isWithin(k, 0, IMAGES - 1)) {
            return BAD;
        }
        if (noValley()) {
            return STATE;
        }
        images[k].takeFrom(now);
        imageKept[k] = true;
        return 1;
    }

    public int restore(int k) {
        if (!isWithin(k, 0, IMAGES - 1)) {
            return BAD;
        }
        if (!imageKept[k]) {
            return STATE;
        }
        now.takeFrom(images[k]);
        acts.forgetAll();
        return 1;
    }

    // ---- asked

    public int kind(int bell) {
        return isBell(bell) ? now.kinds[bell] : BAD;
    }

    public int as(int bell, int kind) {
        if (!isBell(bell) || !isWithin(kind, BELL, WEDDING)) {
            return BAD;
        }
        return isOfKind(now.kinds[bell], kind) ? foundNothing(bell) : found(KIND);
    }

    public int ask(int bell, int what) {
        if (!isBell(bell) || !isWithin(what, 0, 1)) {
            return BAD;
        }
        asker.traced = 0;
        return what == 0 ? asker.sizeOf(bell) : asker.markOf(bell);
    }

    public int trace(int i) {
        return isWithin(i, 0, asker.traced - 1) ? asker.numbers[i] : NONE;
    }

    public int count(int what) {
        switch (what) {
            case 0: return rows.howMany();
            case 1: return now.bells;
            case 2: return now.day;
            case 3: return now.frost;
            case 4: return now.allOwed();
            case 5: return now.allSilent();
            case 6: return acts.count;
            case 7: return tape.length;
            default: return BAD;
        }
    }

    public int status() {
        return status;
    }

    // ---- what several calls test and answer

    private boolean noValley() {
        return now.bells == 0;
    }

    private boolean isBell(int bell) {
        return isWithin(bell, 0, now.bells - 1);
    }

    private boolean isPair(int one, int other) {
        return isBell(one) && isBell(other) && one != other;
    }

    private static boolean isRow(int row) {
        return isWithin(row, 0, ROWS - 1);
    }

    private static boolean isWithin(int v, int least, int most) {
        return v >= least && v <= most;
    }

    private int found(int finding) {
        status = finding;
        return FOUND - finding;
    }

    private int foundNothing(int answer) {
        status = 0;
        return answer;
    }

    private static boolean isOfKind(int kind, int wanted) {
        switch (wanted) {
            case BELL: return true;
            case PARISH: return kind == PARISH || kind == DEAF || kind == FIELD;
            case CATHEDRAL: return kind == CATHEDRAL || kind == WEDDING;
            default: return kind == wanted;
        }
    }

    /** What strokes are owed for, to a lender of a KIND; one that LENDS none of itself lends by hand alone. */
    private static int price(int kind, int strokes) {
        switch (kind) {
            case PARISH: return 5 * strokes;
            case DEAF: return 0;
            case FIELD: return strokes == 0 ? 0 : 4 * strokes + 4;
            default: return 4 * strokes;
        }
    }

    private static int power(int base, int exponent) {
        int product = 1;
        for (int k = 0; k < exponent; k++) {
            product *= base;
        }
        return product;
    }

    private static int greatestDivisor(int a, int b) {
        int x = a;
        int y = b;
        for (int step = 0; step < 100 && y != 0; step++) {
            int rest = x % y;
            x = y;
            y = rest;
        }
        return x;
    }

    /** ROWS 0 .. 7. */
    private static final class Rows {
        final int[][] items = new int[ROWS][ITEMS];
        final int[] lanes = new int[ROWS];
        final int[] sizes = new int[ROWS];
        final boolean[] there = new boolean[ROWS];

        void make(int row, int lane, int n) {
            for (int i = 0; i < ITEMS; i++) {
                items[row][i] = 0;
            }
            lanes[row] = lane;
            sizes[row] = n;
            there[row] = true;
        }

        /** Written so that no sum of from and n can wrap around. */
        boolean hasPlaces(int row, int from, int n) {
            return from >= 0 && n >= 0 && from <= sizes[row] && n <= sizes[row] - from;
        }

        int put(int row, int i, int v) {
            items[row][i] = lanes[row] == 0 ? (byte) v : lanes[row] == 1 ? (short) v : v;
            return items[row][i];
        }

        int howMany() {
            int n = 0;
            for (int row = 0; row < ROWS; row++) {
                n += there[row] ? 1 : 0;
            }
            return n;
        }
    }

    /** THE TAPE, and the reading of a VALLEY from it; what reads answers false behind a FAULT. */
    private static final class Tape {
        final int[] bytes = new int[TAPE];
        int length;
        int at;
        int faultNumber;
        int faultPlace;

        boolean takeByte(int letter) {
            if (length >= TAPE) {
                return false;
            }
            bytes[length] = letter;
            length++;
            return true;
        }

        boolean readWhole(Valley draft) {
            at = 0;
            draft.clear();
            boolean whole = readLaw(draft) && readBells(draft) && readDebts(draft);
            length = 0;
            return whole;
        }

        private boolean readLaw(Valley draft) {
            if (!readSign('v')) {
                return false;
            }
            draft.frost = readNumber(0, 15);
            return draft.frost >= 0 && readSign(';');
        }

        private boolean readBells(Valley draft) {
            for (int k = 0; k < BELLS; k++) {
                int kind = kindHere();
                if (kind == BELL) {
                    return k >= 2 || failed(1, at);
                }
                at++;
                if (!readOneBell(draft, kind)) {
                    return false;
                }
            }
            return kindHere() == BELL || failed(3, at);
        }

        private boolean readOneBell(Valley draft, int kind) {
            int has = readNumber(0, 9);
            if (has < 0 || !readSign(',')) {
                return false;
            }
            int needs = readNumber(0, 9);
            if (needs < 0 || !readSign(';')) {
                return false;
            }
            draft.addBell(kind, has, needs);
            return true;
        }

        private boolean readDebts(Valley draft) {
            for (int turn = 0; turn < TAPE && at < length; turn++) {
                if (!readOneDebt(draft)) {
                    return false;
                }
            }
            return true;
        }

        private boolean readOneDebt(Valley draft) {
            if (!readSign('o')) {
                return false;
            }
            int one = readNumber(0, draft.bells - 1);
            if (one < 0 || !readSign(',')) {
                return false;
            }
            int other = readOther(draft, one);
            if (other < 0 || !readSign(',')) {
                return false;
            }
            int quarters = readNumber(1, 99);
            if (quarters < 0 || !readSign(';')) {
                return false;
            }
            draft.addDebt(one, other, quarters);
            return true;
        }

        /** The BELL that ONE may owe; -1 behind a FAULT. */
        private int readOther(Valley draft, int one) {
            int place = at;
            int other = readNumber(0, draft.bells - 1);
            if (other < 0) {
                return -1;
            }
            if (other == one || draft.owedTo(one, other) > 0 || draft.owedTo(other, one) > 0) {
                failed(2, place);
                return -1;
            }
            return other;
        }

        private boolean readSign(int sign) {
            if (byteAt(at) != sign) {
                return failed(1, at);
            }
            at++;
            return true;
        }

        /** A NUMBER from least to most; -1 behind a FAULT. */
        private int readNumber(int least, int most) {
            int place = at;
            int value = 0;
            int end = place;
            while (end < length && isFigure(bytes[end])) {
                // Beyond two figures the value is of no use, and could wrap around.
                value = end - place < 2 ? value * 10 + bytes[end] - '0' : value;
                end++;
            }
            int figures = end - place;
            if (figures == 0 || figures > 2) {
                failed(1, place);
                return -1;
            }
            if (value < least || value > most) {
                failed(2, place);
                return -1;
            }
            at = end;
            return value;
        }

        /** The KIND of the bell whose letter stands here; BELL: no such letter. */
        private int kindHere() {
            switch (byteAt(at)) {
                case 'p': return PARISH;
                case 'd': return DEAF;
                case 'f': return FIELD;
                case 'c': return CATHEDRAL;
                case 'w': return WEDDING;
                default: return BELL;
            }
        }

        /** -1, which no byte is, at the end. */
        private int byteAt(int place) {
            return place >= 0 && place < length ? bytes[place] : -1;
        }

        private static boolean isFigure(int letter) {
            return letter >= '0' && letter <= '9';
        }

        private boolean failed(int number, int place) {
            faultNumber = number;
            faultPlace = place;
            return false;
        }
    }

    /** A VALLEY as it stands on a DAY; without BELLS there is none. */
    private static final class Valley {
        final int[] kinds = new int[BELLS];
        final int[] has = new int[BELLS];
        final int[] needs = new int[BELLS];
        final int[] silent = new int[BELLS];
        final int[] owed = new int[BELLS * BELLS];
        int bells;
        int frost;
        int day;

        void clear() {
            bells = 0;
            frost = 0;
            day = 0;
            for (int k = 0; k < owed.length; k++) {
                owed[k] = 0;
            }
        }

        void takeFrom(Valley v) {
            bells = v.bells;
            frost = v.frost;
            day = v.day;
            System.arraycopy(v.kinds, 0, kinds, 0, BELLS);
            System.arraycopy(v.has, 0, has, 0, BELLS);
            System.arraycopy(v.needs, 0, needs, 0, BELLS);
            System.arraycopy(v.silent, 0, silent, 0, BELLS);
            System.arraycopy(v.owed, 0, owed, 0, BELLS * BELLS);
        }

        void addBell(int kind, int strokes, int need) {
            if (bells >= BELLS) {
                return;
            }
            kinds[bells] = kind;
            has[bells] = strokes;
            needs[bells] = need;
            silent[bells] = 0;
            bells++;
        }

        int owedTo(int one, int other) {
            return owed[one * BELLS + other];
        }

        /** What one comes to owe is first taken from what the other owes it. */
        void addDebt(int one, int other, int quarters) {
            int back = Math.min(quarters, owedTo(other, one));
            owed[other * BELLS + one] -= back;
            owed[one * BELLS + other] += quarters - back;
        }

        /** Of more than are owed as many as are. */
        void takeOff(int one, int other, int quarters) {
            owed[one * BELLS + other] -= Math.min(quarters, owedTo(one, other));
        }

        int netOf(int bell) {
            int net = 0;
            for (int other = 0; other < bells; other++) {
                net += owedTo(other, bell) - owedTo(bell, other);
            }
            return net;
        }

        int allOwed() {
            int sum = 0;
            for (int one = 0; one < bells; one++) {
                for (int other = 0; other < bells; other++) {
                    sum += owedTo(one, other);
                }
            }
            return sum;
        }

        int allSilent() {
            int sum = 0;
            for (int b = 0; b < bells; b++) {
                sum += silent[b];
            }
            return sum;
        }

        int strokesToday(int bell) {
            boolean cold = (frost >> (day & 3) & 1) == 1;
            return cold ? Math.max(0, has[bell] - 1) : has[bell];
        }

        int wantsToday(int bell) {
            boolean busy = kinds[bell] == WEDDING && (day & 1) == 1;
            return busy ? needs[bell] + 1 : needs[bell];
        }

        boolean isSilentMoreThan(Valley before, int bell) {
            return silent[bell] > before.silent[bell];
        }

        /** The CIRCLE (what = 0), or its least debt (1). */
        int firstCircle(int what) {
            for (int a = 0; a < bells; a++) {
                for (int b = a + 1; b < bells; b++) {
                    for (int c = a + 1; c < bells; c++) {
                        int least = leastOfCircle(a, b, c);
                        if (least > 0) {
                            return what == 0 ? 100 * a + 10 * b + c : least;
                        }
                    }
                }
            }
            return NONE;
        }

        /** 0 where a debt is wanting (as one of a BELL to itself always is). */
        private int leastOfCircle(int a, int b, int c) {
            return Math.min(owedTo(a, b), Math.min(owedTo(b, c), owedTo(c, a)));
        }
    }

    /** How a DAY passes in a VALLEY, with room for what is SPARE and what is LACKED on it. */
    private static final class DayRun {
        final int[] spare = new int[BELLS];
        final int[] lack = new int[BELLS];

        /** struck: the BELLS (bits) that have no strokes on this DAY. */
        void pass(Valley v, int struck) {
            measure(v, struck);
            for (int b = 0; b < v.bells; b++) {
                borrow(v, b);
            }
            for (int b = 0; b < v.bells; b++) {
                v.silent[b] = Math.min(MOST_SILENT, v.silent[b] + lack[b]);
            }
            for (int b = 0; b < v.bells; b++) {
                payBack(v, b);
            }
            v.day++;
        }

        private void measure(Valley v, int struck) {
            for (int b = 0; b < v.bells; b++) {
                int strokes = (struck >> b & 1) == 1 ? 0 : v.strokesToday(b);
                int wants = v.wantsToday(b);
                spare[b] = Math.max(0, strokes - wants);
                lack[b] = Math.max(0, wants - strokes);
            }
        }

        private void borrow(Valley v, int one) {
            for (int step = 1; step < v.bells && lack[one] > 0; step++) {
                int next = one + step;
                int other = next < v.bells ? next : next - v.bells;
                int kind = v.kinds[other];
                if (!isOfKind(kind, CATHEDRAL)) {
                    int strokes = Math.min(lack[one], spare[other]);
                    spare[other] -= strokes;
                    lack[one] -= strokes;
                    v.addDebt(one, other, price(kind, strokes));
                }
            }
        }

        private void payBack(Valley v, int one) {
            for (int other = 0; other < v.bells && spare[one] > 0; other++) {
                int strokes = Math.min(spare[one], (v.owedTo(one, other) + 3) / 4);
                spare[one] -= strokes;
                v.takeOff(one, other, 4 * strokes);
            }
        }
    }

    /** The ACTS that can be undone: what the VALLEY was ahead of each, in a ring. */
    private static final class Acts {
        final Valley[] before = new Valley[ACTS];
        int next;
        int count;

        Acts() {
            for (int k = 0; k < ACTS; k++) {
                before[k] = new Valley();
            }
        }

        void keep(Valley v) {
            before[next].takeFrom(v);
            next = (next + 1) % ACTS;
            count = Math.min(ACTS, count + 1);
        }

        void takeBack(Valley v) {
            if (count == 0) {
                return;
            }
            next = (next + ACTS - 1) % ACTS;
            count--;
            v.takeFrom(before[next]);
        }

        void forgetAll() {
            count = 0;
        }
    }

    /** What is FORETOLD: tried on a VALLEY of its own, so that nothing changes. */
    private static final class Foresight {
        final Valley now;
        final DayRun dayRun;
        final Valley then = new Valley();

        Foresight(Valley now, DayRun dayRun) {
            this.now = now;
            this.dayRun = dayRun;
        }

        Valley behindDays(int d) {
            then.takeFrom(now);
            for (int k = 0; k < d; k++) {
                dayRun.pass(then, 0);
            }
            return then;
        }

        int daysUntilEven() {
            then.takeFrom(now);
            for (int d = 0; d < FORESEEN; d++) {
                if (then.allOwed() == 0) {
                    return d;
                }
                dayRun.pass(then, 0);
            }
            return then.allOwed() == 0 ? FORESEEN : NONE;
        }

        /** The BELL that is SILENT first (what = 0), behind how many DAYS (1). */
        int firstSilent(int what) {
            then.takeFrom(now);
            for (int d = 1; d <= FORESEEN; d++) {
                dayRun.pass(then, 0);
                for (int b = 0; b < then.bells; b++) {
                    if (then.isSilentMoreThan(now, b)) {
                        return what == 0 ? b : d;
                    }
                }
            }
            return NONE;
        }

        int strokesMissing(int bell, int n) {
            for (int strokes = 0; strokes <= 9; strokes++) {
                then.takeFrom(now);
                then.has[bell] = Math.min(MOST_HAS, now.has[bell] + strokes);
                if (isNeverSilent(bell, n)) {
                    return strokes;
                }
            }
            return NONE;
        }

        private boolean isNeverSilent(int bell, int n) {
            for (int d = 0; d < n; d++) {
                dayRun.pass(then, 0);
                if (then.isSilentMoreThan(now, bell)) {
                    return false;
                }
            }
            return true;
        }

        /** SORTS (what = 0), HAVES (1), NEEDS (2), FROSTS (3), as bits. */
        int fittingValues(int one, int other, int[] told, int from, int n, int what) {
            int least = what == 0 ? PARISH : 0;
            int most = what == 0 ? WEDDING : what == 3 ? 15 : 9;
            int bits = 0;
            for (int value = least; value <= most; value++) {
                then.takeFrom(now);
                suppose(one, other, what, value);
                if (comesAsTold(one, other, told, from, n)) {
                    bits |= 1 << value;
                }
            }
            return bits;
        }

        private void suppose(int one, int other, int what, int value) {
            switch (what) {
                case 0: then.kinds[other] = value; break;
                case 1: then.has[one] = value; break;
                case 2: then.needs[one] = value; break;
                default: then.frost = value; break;
            }
        }

        private boolean comesAsTold(int one, int other, int[] told, int from, int n) {
            for (int k = from; k < from + n; k++) {
                dayRun.pass(then, 0);
                if (then.owedTo(one, other) != told[k]) {
                    return false;
                }
            }
            return true;
        }

        /** In how many of 10, 100, .. (a figure for each BELL) a BELL is SILENT when stones are thrown. */
        int silentBySome(int bell, int c) {
            int sum = 0;
            for (int struck = 0; struck < 1 << now.bells; struck++) {
                int hit = Integer.bitCount(struck);
                int weight = power(c, hit) * power(10 - c, now.bells - hit);
                if (weight > 0 && isSilentWhen(bell, struck)) {
                    sum += weight;
                }
            }
            return sum;
        }

        private boolean isSilentWhen(int bell, int struck) {
            then.takeFrom(now);
            dayRun.pass(then, struck);
            return then.isSilentMoreThan(now, bell);
        }

        Valley behindDrawnDays(int n, int seed) {
            then.takeFrom(now);
            long x = seed;
            for (int d = 0; d < n; d++) {
                x = x * 16807L % 2147483647L;
                then.needs[(int) (x % Math.max(1, then.bells))] = (int) (x % 10);
                dayRun.pass(then, 0);
            }
            return then;
        }
    }

    /** PAYMENTS, over the sets of BELLS (bits). */
    private static final class Settling {
        final int[] sums = new int[SETS];
        final int[] groups = new int[SETS];

        /** In a group whose NETS are 0 together one payment less than BELLS is enough: the most groups are sought. */
        int fewestPayments(Valley v) {
            int all = (1 << v.bells) - 1;
            sumNets(v);
            groups[0] = 0;
            for (int set = 1; set <= all; set++) {
                groups[set] = mostGroups(v, set) + (sums[set] == 0 ? 1 : 0);
            }
            return v.bells - groups[all];
        }

        private void sumNets(Valley v) {
            sums[0] = 0;
            for (int b = 0; b < v.bells; b++) {
                int net = v.netOf(b);
                for (int set = 0; set < 1 << b; set++) {
                    sums[set | 1 << b] = sums[set] + net;
                }
            }
        }

        /** The most groups in a set that lacks one of its BELLS. */
        private int mostGroups(Valley v, int set) {
            int most = 0;
            for (int b = 0; b < v.bells; b++) {
                if ((set >> b & 1) == 1) {
                    most = Math.max(most, groups[set ^ 1 << b]);
                }
            }
            return most;
        }

        /** Each BELL that is owed more must get this much, and need not get anything else. */
        int leastQuarters(Valley v) {
            int sum = 0;
            for (int b = 0; b < v.bells; b++) {
                sum += Math.max(0, v.netOf(b));
            }
            return sum;
        }
    }

    /**
     * ASKS, and THE TRACE. Only parishes' SIZES ask for a MARK, and only cathedrals' MARKS for a SIZE:
     * each family has bodies of its own, so that none can come back to itself.
     */
    private static final class Asker {
        final Valley now;
        final int[] numbers = new int[TRACE];
        int traced;

        Asker(Valley now) {
            this.now = now;
        }

        int sizeOf(int bell) {
            if (isOfKind(now.kinds[bell], PARISH)) {
                return sizeInParishes(bell);
            }
            return isOfKind(now.kinds[bell], CATHEDRAL) ? sizeInCathedrals(bell) : lentSize(bell);
        }

        int markOf(int bell) {
            if (isOfKind(now.kinds[bell], PARISH)) {
                return markInParishes(bell);
            }
            return isOfKind(now.kinds[bell], CATHEDRAL) ? cathedralMark(bell) : lentMark(bell);
        }

        private int sizeInParishes(int bell) {
            if (now.kinds[bell] == DEAF) {
                begin(12);
                return 0 - parishSize(bell);
            }
            return parishSize(bell);
        }

        private int parishSize(int bell) {
            begin(11);
            int lent = lentSize(bell);
            return lent + markInParishes(bell);
        }

        private int sizeInCathedrals(int bell) {
            if (now.kinds[bell] == WEDDING) {
                begin(14);
                return 2 * cathedralSize(bell);
            }
            return cathedralSize(bell);
        }

        private int cathedralSize(int bell) {
            begin(13);
            return lentSize(bell) - 100;
        }

        private int lentSize(int bell) {
            begin(10);
            return now.has[bell];
        }

        private int markInParishes(int bell) {
            if (now.kinds[bell] == FIELD) {
                begin(22);
                return parishMark(bell) - 1000;
            }
            if (now.kinds[bell] == DEAF) {
                begin(24);
                return 2 * parishMark(bell);
            }
            return parishMark(bell);
        }

        private int parishMark(int bell) {
            begin(21);
            return lentMark(bell) + now.netOf(bell);
        }

        private int cathedralMark(int bell) {
            begin(23);
            int lent = lentMark(bell);
            return lent - sizeInCathedrals(bell);
        }

        private int lentMark(int bell) {
            begin(20);
            return bell;
        }

        /** Only the first numbers are kept. */
        private void begin(int body) {
            if (traced < TRACE) {
                numbers[traced] = body;
                traced++;
            }
        }
    }
}
