import java.util.Random;

/** Random runs of calls, each answer against that of Model.java. */
public final class ModelTest {
    private static final int RUNS = 600, CALLS = 512;
    private static final int[] ODD = {-1, -2, 100, 41, Integer.MIN_VALUE, Integer.MAX_VALUE, Integer.MAX_VALUE - 1};
    private static final Due DUE = new Due("ModelTest");

    private final Random random;
    private final BellDebts x = new BellDebts();
    private final Model m = new Model();
    private int left = CALLS;

    private ModelTest(int seed) {
        random = new Random(seed);
    }

    public static void main(String[] args) {
        for (int seed = 1; seed <= RUNS; seed++) {
            new ModelTest(seed).run(seed);
        }
        DUE.end();
    }

    private void run(int seed) {
        if (random.nextInt(20) > 0) {
            feed(text());
            due("run " + seed, "valley()", x.valley(), m.valley());
        }
        while (left > 0) {
            step("run " + seed);
        }
    }

    private void due(String run, String call, int got, int want) {
        left--;
        DUE.is(run + " " + call, want, got);
    }

    private void feed(String text) {
        for (char letter : text.toCharArray()) {
            due("text", "feed(" + (int) letter + ")", x.feed(letter), m.feed(letter));
        }
    }

    private String text() {
        StringBuilder t = new StringBuilder("v").append(random.nextInt(16)).append(';');
        int bells = 2 + random.nextInt(5);
        int most = 3 + random.nextInt(7);
        for (int b = 0; b < bells; b++) {
            t.append("pdfcwppf".charAt(random.nextInt(8))).append(random.nextInt(10)).append(',');
            t.append(random.nextInt(most)).append(';');
        }
        int density = random.nextInt(4);
        for (int one = 0; one < bells; one++) {
            for (int other = one + 1; other < bells; other++) {
                if (random.nextInt(4) < density && t.length() < 150) {
                    boolean turned = random.nextBoolean();
                    t.append('o').append(turned ? other : one).append(',').append(turned ? one : other).append(',');
                    t.append(1 + random.nextInt(random.nextBoolean() ? 99 : 9)).append(';');
                }
            }
        }
        if (random.nextInt(4) == 0) {
            spoil(t);
        }
        return t.toString();
    }

    private void spoil(StringBuilder t) {
        int at = random.nextInt(t.length());
        char letter = "v,;opdfcw0123456789x \u00e9".charAt(random.nextInt(22));
        switch (random.nextInt(4)) {
            case 0: t.deleteCharAt(at); break;
            case 1: t.insert(at, letter); break;
            case 2: t.setLength(at); break;
            default: t.setCharAt(at, letter); break;
        }
    }

    /** Mostly from least to most, at times a little beyond, seldom far off. */
    private int pick(int least, int most) {
        int chance = random.nextInt(40);
        if (chance == 0) {
            return ODD[random.nextInt(ODD.length)];
        }
        if (chance < 3) {
            return random.nextBoolean() ? least - 1 : most + 1;
        }
        return least + random.nextInt(most - least + 1);
    }

    private int pickBell() {
        return pick(0, Math.max(0, m.count(1) - 1));
    }

    private void step(String run) {
        int a = pickBell();
        int b = pickBell();
        int p;
        int q;
        int r;
        switch (random.nextInt(36)) {
            case 0: p = pick(0, 3); q = pick(0, 2); r = pick(0, 40); due(run, "row " + p + " " + q + " " + r, x.row(p, q, r), m.row(p, q, r)); break;
            case 1: case 2: {
                p = pick(0, 3); q = pick(0, 12); r = random.nextBoolean() ? random.nextInt() : pick(0, 60);
                due(run, "set " + p + " " + q + " " + r, x.set(p, q, r), m.set(p, q, r)); break;
            }
            case 3: {
                p = pick(0, 3); q = pick(0, 3); r = pick(0, 20); int i = pick(0, 20); int n = pick(0, 12);
                due(run, "copy " + p + " " + i + " " + q + " " + r + " " + n, x.copy(p, i, q, r, n), m.copy(p, i, q, r, n)); break;
            }
            case 4: if (random.nextInt(4) == 0) { p = pick(0, 3); due(run, "drop " + p, x.drop(p), m.drop(p)); } break;
            case 5: if (random.nextInt(8) == 0) { p = pick(0, 255); due(run, "feed " + p, x.feed(p), m.feed(p)); } break;
            case 6: if (random.nextInt(12) == 0 && left > 200) { feed(text()); } break;
            case 7: if (random.nextInt(6) == 0) { due(run, "valley", x.valley(), m.valley()); due(run, "fault", x.fault(), m.fault()); } break;
            case 8: p = random.nextInt(4) == 0 ? pick(1, 24) : pick(1, 3); due(run, "days " + p, x.days(p), m.days(p)); break;
            case 9: case 10: p = pick(1, 9); due(run, "lend " + a + " " + b + " " + p, x.lend(a, b, p), m.lend(a, b, p)); break;
            case 11: p = random.nextInt(5) == 0 ? pick(1, 999) : pick(1, 20); due(run, "pay " + a + " " + b + " " + p, x.pay(a, b, p), m.pay(a, b, p)); break;
            case 12: due(run, "forgive " + a + " " + b, x.forgive(a, b), m.forgive(a, b)); break;
            case 13: p = random.nextInt(5) == 0 ? pick(0, 99) : pick(0, 9); due(run, "mend " + a + " " + p, x.mend(a, p), m.mend(a, p)); break;
            case 14: due(run, "undo", x.undo(), m.undo()); break;
            case 15: p = pick(0, 5); due(run, "bell " + a + " " + p, x.bell(a, p), m.bell(a, p)); break;
            case 16: due(run, "owes " + a + " " + b, x.owes(a, b), m.owes(a, b)); break;
            case 17: p = pick(0, 60); due(run, "ahead " + a + " " + b + " " + p, x.ahead(a, b, p), m.ahead(a, b, p)); break;
            case 18: p = pick(0, 60); q = pick(0, 1); due(run, "later " + a + " " + p + " " + q, x.later(a, p, q), m.later(a, p, q)); break;
            case 19: due(run, "even", x.even(), m.even()); break;
            case 20: p = pick(0, 1); due(run, "first " + p, x.first(p), m.first(p)); break;
            case 21: p = pick(0, 1); due(run, "payments " + p, x.payments(p), m.payments(p)); break;
            case 22: p = pick(0, 1); due(run, "circle " + p, x.circle(p), m.circle(p)); break;
            case 23: p = pick(1, 30); due(run, "more " + a + " " + p, x.more(a, p), m.more(a, p)); break;
            case 24: {
                p = pick(0, 3); q = pick(0, 20); r = pick(1, 12); int what = pick(0, 3);
                due(run, "fits " + a + " " + b + " " + p + " " + q + " " + r + " " + what, x.fits(a, b, p, q, r, what), m.fits(a, b, p, q, r, what)); break;
            }
            case 25: fitting(run, a, b); break;
            case 26: p = pick(0, 10); q = pick(0, 1); due(run, "stones " + a + " " + p + " " + q, x.stones(a, p, q), m.stones(a, p, q)); break;
            case 27: p = pick(0, 60); q = pick(1, 999999); r = pick(0, 1); due(run, "drawn " + p + " " + q + " " + r, x.drawn(p, q, r), m.drawn(p, q, r)); break;
            case 28: if (random.nextInt(3) == 0) { p = pick(0, 1); due(run, "image " + p, x.image(p), m.image(p)); } break;
            case 29: if (random.nextInt(5) == 0) { p = pick(0, 1); due(run, "restore " + p, x.restore(p), m.restore(p)); } break;
            case 30: due(run, "kind " + a, x.kind(a), m.kind(a)); break;
            case 31: p = pick(0, 5); due(run, "as " + a + " " + p, x.as(a, p), m.as(a, p)); break;
            case 32: p = pick(0, 1); due(run, "ask " + a + " " + p, x.ask(a, p), m.ask(a, p)); break;
            case 33: p = pick(0, 6); due(run, "trace " + p, x.trace(p), m.trace(p)); break;
            case 34: p = pick(0, 7); due(run, "count " + p, x.count(p), m.count(p)); break;
            default: due(run, "status", x.status(), m.status()); break;
        }
    }

    /** A row that tells what is foretold, so that something fits. */
    private void fitting(String run, int a, int b) {
        if (a == b || a < 0 || b < 0 || a >= m.count(1) || b >= m.count(1) || left < 20) {
            return;
        }
        int n = 1 + random.nextInt(6);
        due(run, "row 3 1 12", x.row(3, 1, 12), m.row(3, 1, 12));
        for (int i = 0; i < n; i++) {
            int told = m.ahead(a, b, i + 1) + (random.nextInt(30) == 0 ? 1 : 0);
            due(run, "set 3 " + i + " " + told, x.set(3, i, told), m.set(3, i, told));
        }
        for (int what = 0; what < 4; what++) {
            due(run, "fits " + a + " " + b + " 3 0 " + n + " " + what, x.fits(a, b, 3, 0, n, what), m.fits(a, b, 3, 0, n, what));
        }
    }
}
