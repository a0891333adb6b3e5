import java.math.BigInteger;
import java.util.ArrayDeque;
import java.util.ArrayList;
import java.util.Arrays;
import java.util.Deque;
import java.util.List;
import java.util.regex.Matcher;
import java.util.regex.Pattern;

/**
 * The document once more, written apart from BellDebts and in another way: debts with a sign, a list of tokens,
 * states that are copied whole, payments by trial, chances by whole fractions, bodies of asks as methods of types.
 */
final class Model {
    static final int NONE = -1000000, BAD = -1000001, STATE = -1000002, FULL = -1000003;

    /** A VALLEY; debt[a][b] is what a owes b, below 0 what b owes a. */
    static final class State {
        int n;
        int frost;
        int day;
        int[] kind = new int[6];
        int[] has = new int[6];
        int[] need = new int[6];
        int[] mute = new int[6];
        int[][] debt = new int[6][6];

        State twin() {
            State s = new State();
            s.n = n;
            s.frost = frost;
            s.day = day;
            s.kind = kind.clone();
            s.has = has.clone();
            s.need = need.clone();
            s.mute = mute.clone();
            for (int a = 0; a < 6; a++) {
                s.debt[a] = debt[a].clone();
            }
            return s;
        }

        void owe(int a, int b, int q) {
            debt[a][b] += q;
            debt[b][a] -= q;
        }

        int net(int b) {
            return -Arrays.stream(debt[b]).sum();
        }

        int owed() {
            int sum = 0;
            for (int[] line : debt) {
                for (int q : line) {
                    sum += Math.abs(q);
                }
            }
            return sum / 2;
        }

        int muted() {
            return Arrays.stream(mute).sum();
        }

        /** What it HAS above what it WANTS on this DAY; below 0 what it LACKS. */
        int over(int b, boolean struck) {
            int strokes = has[b];
            if ((frost & (1 << day % 4)) != 0 && strokes > 0) {
                strokes--;
            }
            return (struck ? 0 : strokes) - need[b] - (kind[b] == 5 ? day % 2 : 0);
        }

        /** A DAY: one stroke after the other. */
        void pass(boolean[] struck) {
            int[] over = new int[n];
            for (int b = 0; b < n; b++) {
                over[b] = over(b, struck[b]);
            }
            for (int b = 0; b < n; b++) {
                for (int k = 1; k < n; k++) {
                    int from = (b + k) % n;
                    int lent = 0;
                    while (kind[from] < 4 && over[b] < 0 && over[from] > 0) {
                        over[b]++;
                        over[from]--;
                        lent++;
                    }
                    if (lent > 0) {
                        owe(b, from, cost(kind[from], lent));
                    }
                }
            }
            for (int b = 0; b < n; b++) {
                for (int to = 0; to < n; to++) {
                    while (over[b] > 0 && debt[b][to] > 0) {
                        over[b]--;
                        owe(b, to, -Math.min(4, debt[b][to]));
                    }
                }
                if (over[b] < 0) {
                    mute[b] = Math.min(9999, mute[b] - over[b]);
                }
            }
            day++;
        }

        void pass() {
            pass(new boolean[6]);
        }

        static int cost(int kind, int n) {
            return kind == 1 ? n * 5 : kind == 2 ? 0 : kind == 3 ? (n + 1) * 4 : n * 4;
        }
    }

    /** KINDS as types, with the bodies of their ASKS. */
    interface Bell {
        Model m();
        int at();
        default int size() { m().began(10); return m().s.has[at()]; }
        default int mark() { m().began(20); return at(); }
    }

    static class Plain implements Bell {
        final Model m;
        final int at;
        Plain(Model m, int at) { this.m = m; this.at = at; }
        public Model m() { return m; }
        public int at() { return at; }
        static Plain of(Model m, int at) {
            switch (m.s.kind[at]) {
                case 1: return new Parish(m, at);
                case 2: return new Deaf(m, at);
                case 3: return new Field(m, at);
                case 4: return new Cathedral(m, at);
                default: return new Wedding(m, at);
            }
        }
    }

    static class Parish extends Plain {
        Parish(Model m, int at) { super(m, at); }
        public int size() { m.began(11); return super.size() + mark(); }
        public int mark() { m.began(21); return super.mark() + m.s.net(at); }
    }

    static final class Deaf extends Parish {
        Deaf(Model m, int at) { super(m, at); }
        public int size() { m.began(12); return -super.size(); }
        public int mark() { m.began(24); return 2 * super.mark(); }
    }

    static final class Field extends Parish {
        Field(Model m, int at) { super(m, at); }
        public int mark() { m.began(22); return super.mark() - 1000; }
    }

    static class Cathedral extends Plain {
        Cathedral(Model m, int at) { super(m, at); }
        public int size() { m.began(13); return super.size() - 100; }
        public int mark() { m.began(23); return super.mark() - size(); }
    }

    static final class Wedding extends Cathedral {
        Wedding(Model m, int at) { super(m, at); }
        public int size() { m.began(14); return 2 * super.size(); }
    }

    State s = new State();
    private final StringBuilder tape = new StringBuilder();
    private final Deque<State> acts = new ArrayDeque<>();
    private final State[] images = new State[2];
    private final List<Integer> trace = new ArrayList<>();
    private final int[][] rows = new int[8][];
    private final int[] lanes = new int[8];
    private int fault;
    private int status;

    private void began(int body) {
        if (trace.size() < 16) {
            trace.add(body);
        }
    }

    private int finding(int number) {
        status = number;
        return -1000010 - number;
    }

    private int well(int answer) {
        status = 0;
        return answer;
    }

    private boolean noBell(int b) {
        return b < 0 || b >= s.n;
    }

    private boolean noPair(int a, int b) {
        return noBell(a) || noBell(b) || a == b;
    }

    private void act() {
        acts.push(s.twin());
        if (acts.size() > 24) {
            acts.removeLast();
        }
    }

    int row(int row, int lane, int n) {
        if (row < 0 || row > 7 || lane < 0 || lane > 2 || n > 40) return BAD;
        if (n < 0) return finding(4);
        rows[row] = new int[n];
        lanes[row] = lane;
        return well(n);
    }

    int set(int row, int i, int v) {
        if (row < 0 || row > 7) return BAD;
        if (rows[row] == null) return finding(1);
        if (i < 0 || i >= rows[row].length) return finding(2);
        int bits = 8 << lanes[row];
        return well(rows[row][i] = v << 32 - bits >> 32 - bits);
    }

    int copy(int a, int i, int b, int j, int n) {
        if (a < 0 || a > 7 || b < 0 || b > 7) return BAD;
        if (rows[a] == null || rows[b] == null) return finding(1);
        if (lanes[a] != lanes[b]) return finding(5);
        if (i < 0 || j < 0 || n < 0 || (long) i + n > rows[a].length || (long) j + n > rows[b].length) return finding(2);
        int[] were = rows[a].clone();
        for (int k = 0; k < n; k++) {
            rows[b][j + k] = were[i + k];
        }
        return well(n);
    }

    int drop(int row) {
        if (row < 0 || row > 7) return BAD;
        if (rows[row] == null) return finding(1);
        int n = rows[row].length;
        rows[row] = null;
        return well(n);
    }

    int feed(int letter) {
        if (letter < 0 || letter > 255) return BAD;
        if (tape.length() == 160) return FULL;
        tape.append((char) letter);
        return tape.length();
    }

    /** The text as tokens (each with its first byte), then the grammar as a row of what is due next. */
    int valley() {
        Matcher m = Pattern.compile("[0-9]+|.", Pattern.DOTALL).matcher(tape);
        State draft = new State();
        String due = "v";
        int one = 0;
        int other = 0;
        int wrong = 0;
        int place = tape.length();
        // due: v F ; (law) B (a bell or, behind two, a debt) H , N ; (bell) O , P , Q ; (debt) D (a debt)
        while (wrong == 0 && m.find()) {
            String t = m.group();
            boolean number = t.matches("[0-9]{1,2}");
            int v = number ? Integer.parseInt(t) : -1;
            int kind = t.length() == 1 ? "pdfcw".indexOf(t) + 1 : 0;
            String next = null;
            int w = 1;
            switch (due) {
                case "v": if (t.equals("v")) next = "F"; break;
                case "F": if (number) { w = 2; if (v <= 15) { draft.frost = v; next = "a"; } } break;
                case "a": if (t.equals(";")) next = "B"; break;
                case "B":
                    if (kind > 0) { w = 3; if (draft.n < 6) { draft.kind[draft.n] = kind; next = "H"; } }
                    else if (t.equals("o") && draft.n >= 2) next = "O";
                    break;
                case "H": if (number) { w = 2; if (v <= 9) { draft.has[draft.n] = v; next = "b"; } } break;
                case "b": if (t.equals(",")) next = "N"; break;
                case "N": if (number) { w = 2; if (v <= 9) { draft.need[draft.n] = v; next = "c"; } } break;
                case "c": if (t.equals(";")) { draft.n++; next = "B"; } break;
                case "O": if (number) { w = 2; if (v < draft.n) { one = v; next = "d"; } } break;
                case "d": if (t.equals(",")) next = "P"; break;
                case "P":
                    if (number) { w = 2; if (v < draft.n && v != one && draft.debt[one][v] == 0) { other = v; next = "e"; } }
                    break;
                case "e": if (t.equals(",")) next = "Q"; break;
                case "Q": if (number) { w = 2; if (v > 0) { draft.owe(one, other, v); next = "f"; } } break;
                case "f": if (t.equals(";")) next = "D"; break;
                default: if (t.equals("o")) next = "O"; break;
            }
            if (next == null) {
                wrong = w;
                place = m.start();
            } else {
                due = next;
            }
        }
        tape.setLength(0);
        if (wrong == 0 && !due.equals("D") && !(due.equals("B") && draft.n >= 2)) {
            wrong = 1;
        }
        if (wrong > 0) {
            fault = wrong;
            return -1000100 - place;
        }
        s = draft;
        acts.clear();
        return s.n;
    }

    int fault() {
        return fault;
    }

    int days(int n) {
        if (s.n == 0) return STATE;
        if (n < 1 || n > 24) return BAD;
        if (s.day + n > 999) return FULL;
        for (int k = 0; k < n; k++) {
            act();
            s.pass();
        }
        return s.owed();
    }

    int lend(int one, int other, int n) {
        if (noPair(one, other) || n < 1 || n > 9) return BAD;
        act();
        s.owe(one, other, State.cost(s.kind[other], n));
        return owes(one, other);
    }

    int pay(int one, int other, int n) {
        if (noPair(one, other) || n < 1 || n > 999) return BAD;
        if (s.debt[one][other] <= 0) return STATE;
        act();
        s.owe(one, other, -Math.min(n, s.debt[one][other]));
        return owes(one, other);
    }

    int forgive(int one, int other) {
        if (noPair(one, other)) return BAD;
        int q = s.debt[one][other];
        if (q <= 0) return STATE;
        act();
        s.owe(one, other, -q);
        return q;
    }

    int mend(int bell, int v) {
        if (noBell(bell) || v < 0 || v > 99) return BAD;
        act();
        int was = s.has[bell];
        s.has[bell] = v;
        return was;
    }

    int undo() {
        if (acts.isEmpty()) return STATE;
        s = acts.pop();
        return acts.size();
    }

    int bell(int bell, int what) {
        if (noBell(bell) || what < 0 || what > 5) return BAD;
        int over = s.over(bell, false);
        return new int[] {s.has[bell], s.need[bell], s.mute[bell], s.net(bell), Math.max(0, over), Math.max(0, -over)}[what];
    }

    int owes(int one, int other) {
        return noPair(one, other) ? BAD : Math.max(0, s.debt[one][other]);
    }

    private State behind(int d) {
        State t = s.twin();
        for (int k = 0; k < d; k++) {
            t.pass();
        }
        return t;
    }

    int ahead(int one, int other, int d) {
        return noPair(one, other) || d < 0 || d > 60 ? BAD : Math.max(0, behind(d).debt[one][other]);
    }

    int later(int bell, int d, int what) {
        if (noBell(bell) || d < 0 || d > 60 || what < 0 || what > 1) return BAD;
        return what == 0 ? behind(d).mute[bell] : behind(d).net(bell);
    }

    int even() {
        if (s.n == 0) return STATE;
        for (int d = 0; d <= 60; d++) {
            if (behind(d).owed() == 0) return d;
        }
        return NONE;
    }

    int first(int what) {
        if (s.n == 0) return STATE;
        if (what < 0 || what > 1) return BAD;
        for (int d = 1; d <= 60; d++) {
            State t = behind(d);
            for (int b = 0; b < s.n; b++) {
                if (t.mute[b] != s.mute[b]) return what == 0 ? b : d;
            }
        }
        return NONE;
    }

    int payments(int what) {
        if (s.n == 0) return STATE;
        if (what < 0 || what > 1) return BAD;
        int[] nets = new int[s.n];
        int sum = 0;
        for (int b = 0; b < s.n; b++) {
            nets[b] = s.net(b);
            sum += Math.abs(nets[b]);
        }
        return what == 0 ? settle(nets, 0) : sum / 2;
    }

    /** The first bell that is not even hands all it owes, or is owed, on to another: each other one is tried. */
    private static int settle(int[] nets, int from) {
        int b = from;
        while (b < nets.length && nets[b] == 0) {
            b++;
        }
        if (b == nets.length) {
            return 0;
        }
        int fewest = 99;
        for (int to = b + 1; to < nets.length; to++) {
            nets[to] += nets[b];
            fewest = Math.min(fewest, 1 + settle(nets, b + 1));
            nets[to] -= nets[b];
        }
        return fewest;
    }

    int circle(int what) {
        if (s.n == 0) return STATE;
        if (what < 0 || what > 1) return BAD;
        for (int which = 0; which < 600; which++) {
            int a = which / 100;
            int b = which / 10 % 10;
            int c = which % 10;
            if (b < s.n && c < s.n && a < b && a < c && s.debt[a][b] > 0 && s.debt[b][c] > 0 && s.debt[c][a] > 0) {
                return what == 0 ? which : Math.min(s.debt[a][b], Math.min(s.debt[b][c], s.debt[c][a]));
            }
        }
        return NONE;
    }

    int more(int bell, int n) {
        if (noBell(bell) || n < 1 || n > 30) return BAD;
        int was = s.has[bell];
        int answer = NONE;
        for (int k = 9; k >= 0; k--) {
            s.has[bell] = was + k;
            if (was + k <= 99 && behind(n).mute[bell] == s.mute[bell]) {
                answer = k;
            }
        }
        s.has[bell] = was;
        return answer;
    }

    int fits(int one, int other, int row, int i, int n, int what) {
        if (noPair(one, other) || row < 0 || row > 7 || n < 1 || n > 12 || what < 0 || what > 3) return BAD;
        if (rows[row] == null) return finding(1);
        if (i < 0 || (long) i + n > rows[row].length) return finding(2);
        int bits = 0;
        for (int v = what == 0 ? 1 : 0; v <= (what == 0 ? 5 : what == 3 ? 15 : 9); v++) {
            State kept = s;
            s = s.twin();
            if (what == 0) s.kind[other] = v;
            if (what == 1) s.has[one] = v;
            if (what == 2) s.need[one] = v;
            if (what == 3) s.frost = v;
            boolean all = true;
            for (int d = 1; d <= n; d++) {
                all &= ahead(one, other, d) == rows[row][i + d - 1];
            }
            s = kept;
            bits += all ? 1 << v : 0;
        }
        return well(bits);
    }

    int stones(int bell, int c, int what) {
        if (noBell(bell) || c < 0 || c > 10 || what < 0 || what > 1) return BAD;
        BigInteger above = BigInteger.valueOf(chance(bell, c, 0, new boolean[6]));
        BigInteger below = BigInteger.TEN.pow(s.n);
        return (what == 0 ? above : below).divide(above.gcd(below)).intValue();
    }

    private long chance(int bell, int c, int next, boolean[] struck) {
        if (next == s.n) {
            State t = s.twin();
            t.pass(struck);
            return t.mute[bell] > s.mute[bell] ? 1 : 0;
        }
        struck[next] = true;
        long sum = c * chance(bell, c, next + 1, struck);
        struck[next] = false;
        return sum + (10 - c) * chance(bell, c, next + 1, struck);
    }

    int drawn(int n, int seed, int what) {
        if (s.n == 0) return STATE;
        if (n < 0 || n > 60 || seed < 1 || seed > 999999 || what < 0 || what > 1) return BAD;
        State t = s.twin();
        BigInteger x = BigInteger.valueOf(seed);
        for (int d = 0; d < n; d++) {
            x = x.multiply(BigInteger.valueOf(16807)).mod(BigInteger.valueOf(2147483647));
            t.need[x.intValue() % t.n] = x.intValue() % 10;
            t.pass();
        }
        return what == 0 ? t.muted() - s.muted() : t.owed();
    }

    int image(int k) {
        if (k < 0 || k > 1) return BAD;
        if (s.n == 0) return STATE;
        images[k] = s.twin();
        return 1;
    }

    int restore(int k) {
        if (k < 0 || k > 1) return BAD;
        if (images[k] == null) return STATE;
        s = images[k].twin();
        acts.clear();
        return 1;
    }

    int kind(int bell) {
        return noBell(bell) ? BAD : s.kind[bell];
    }

    int as(int bell, int kind) {
        if (noBell(bell) || kind < 0 || kind > 5) return BAD;
        Class<?>[] types = {Bell.class, Parish.class, Deaf.class, Field.class, Cathedral.class, Wedding.class};
        return types[kind].isInstance(Plain.of(this, bell)) ? well(bell) : finding(3);
    }

    int ask(int bell, int what) {
        if (noBell(bell) || what < 0 || what > 1) return BAD;
        trace.clear();
        Bell asked = Plain.of(this, bell);
        return what == 0 ? asked.size() : asked.mark();
    }

    int trace(int i) {
        return i < 0 || i >= trace.size() ? NONE : trace.get(i);
    }

    int count(int what) {
        int there = 0;
        for (int[] row : rows) {
            there += row == null ? 0 : 1;
        }
        int[] counts = {there, s.n, s.day, s.frost, s.owed(), s.muted(), acts.size(), tape.length()};
        return what < 0 || what > 7 ? BAD : counts[what];
    }

    int status() {
        return status;
    }
}
