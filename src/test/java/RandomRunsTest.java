import java.util.Random;

/** Random runs of at most 512 calls, each answer compared with the one of Reference. */
public final class RandomRunsTest {
    private static final int RUNS = 400;
    private static final int CALLS = 512;
    private static final int[] EXTREMES = {Integer.MIN_VALUE, Integer.MAX_VALUE, -1, 36, 37, 64, 256, 1 << 16};
    private static final String LETTERS = "Gtembs0123456789tembs0123456789X";

    private final Random random;
    private final HillSight tried = new HillSight();
    private final Reference due = new Reference();
    private int calls = 0;
    private String latest = "";
    private boolean wrong = false;

    private RandomRunsTest(long seed) {
        random = new Random(seed);
    }

    public static void main(String[] args) {
        int failed = 0;
        for (long seed = 1; seed <= RUNS; seed++) {
            RandomRunsTest run = new RandomRunsTest(seed);
            run.play();
            if (run.wrong) {
                failed++;
                System.out.println("seed " + seed + ", call " + run.calls + ": " + run.latest);
            }
        }
        System.out.println(failed == 0 ? "all random runs agree" : failed + " random runs do not agree");
        if (failed != 0) {
            System.exit(1);
        }
    }

    private void play() {
        while (calls < CALLS && !wrong) {
            int kind = random.nextInt(100);
            if (kind < 4) {
                writeText();
            } else if (kind < 35) {
                change();
            } else {
                ask(random.nextInt(27));
            }
        }
    }

    private void same(String call, long got, long want) {
        calls++;
        if (got != want && !wrong) {
            wrong = true;
            latest = call + " answered " + got + ", due is " + want;
        }
    }

    private int cell() {
        if (random.nextInt(100) == 0) {
            return EXTREMES[random.nextInt(EXTREMES.length)];
        }
        return random.nextInt(20) == 0 ? random.nextInt(60) - 12 : random.nextInt(cells());
    }

    private int cells() {
        return tried.about(0) * tried.about(1);
    }

    /** Mostly a number from 0 to the limit. */
    private int up(int limit) {
        if (random.nextInt(100) == 0) {
            return EXTREMES[random.nextInt(EXTREMES.length)];
        }
        return random.nextInt(25) == 0 ? random.nextInt(limit + 20) - 10 : random.nextInt(limit + 1);
    }

    private String mapText() {
        int w = 2 + random.nextInt(5);
        int h = 2 + random.nextInt(5);
        StringBuilder s = new StringBuilder("G").append(w).append(h);
        int top = 1 + random.nextInt(10);
        for (int c = 0; c < w * h; c++) {
            s.append(random.nextInt(3) == 0 ? random.nextInt(top) : 0);
        }
        for (int parts = random.nextInt(9); parts > 0; parts--) {
            int letter = random.nextInt(7);
            if (letter > 3) {
                int at = random.nextInt(w * h);
                s.append('t').append(at / 10).append(at % 10).append(random.nextInt(10));
            } else if (s.indexOf("embs".substring(letter, letter + 1)) < 0 || random.nextInt(9) == 0) {
                s.append("embs".charAt(letter)).append(letter == 3 ? 1 + random.nextInt(9) : random.nextInt(10));
            }
        }
        return s.toString();
    }

    private String spoiled(String s) {
        int at = random.nextInt(s.length());
        char letter = LETTERS.charAt(random.nextInt(LETTERS.length()));
        switch (random.nextInt(4)) {
            case 0: return s.substring(0, at);
            case 1: return s.substring(0, at) + s.substring(at + 1);
            case 2: return s.substring(0, at) + letter + s.substring(at);
            default: return s.substring(0, at) + letter + s.substring(at + 1);
        }
    }

    private void writeText() {
        String s = mapText();
        while (random.nextInt(3) == 0 && !s.isEmpty()) {
            s = spoiled(s);
        }
        if (calls + s.length() + 4 > CALLS) {
            calls = CALLS;
            return;
        }
        if (random.nextInt(12) != 0) {
            same("wipe()", tried.wipe(), due.wipe());
        }
        for (char letter : s.toCharArray()) {
            same("write(" + letter + ")", tried.write(letter), due.write(letter));
        }
        same("fault() of " + s, tried.fault(), due.fault());
        same("map() of " + s, tried.map(), due.map());
        same("about(11)", tried.about(11), due.about(11));
    }

    private void change() {
        int a = cell();
        int v = up(9);
        int t = up(4);
        switch (random.nextInt(9)) {
            case 0: case 1: same("raise(" + a + ", " + v + ")", tried.raise(a, v), due.raise(a, v)); break;
            case 2: case 3: same("build(" + a + ", " + v + ")", tried.build(a, v), due.build(a, v)); break;
            case 4: same("raze(" + t + ")", tried.raze(t), due.raze(t)); break;
            case 5: same("set(" + t + ", " + v + ")", tried.set(t, v), due.set(t, v)); break;
            case 6:
                for (int i = random.nextInt(8); i >= 0 && calls < CALLS; i--) {
                    same("undo()", tried.undo(), due.undo());
                }
                break;
            case 7: t--; same("keep(" + t + ")", tried.keep(t), due.keep(t)); break;
            default: t--; same("again(" + t + ")", tried.again(t), due.again(t)); break;
        }
    }

    private void ask(int kind) {
        int a = cell();
        int b = cell();
        int v = up(9);
        int t = up(4);
        boolean upper = random.nextBoolean();
        switch (kind) {
            case 0: case 1: int k = up(11); same("about(" + k + ")", tried.about(k), due.about(k)); break;
            case 2: case 3: same("cell(" + a + ", " + t + ")", tried.cell(a, t), due.cell(a, t)); break;
            case 4: int p = up(3); same("tower(" + t + ", " + p + ")", tried.tower(t, p), due.tower(t, p)); break;
            case 5: case 6: case 7: case 8:
                same("sees(" + a + ", " + b + ", " + t + ")", tried.sees(a, b, t), due.sees(a, b, t)); break;
            case 9: same("view(" + a + ")", tried.view(a), due.view(a)); break;
            case 10: same("watched(" + t + ")", tried.watched(t), due.watched(t)); break;
            case 11: same("joined(" + t + ")", tried.joined(t), due.joined(t)); break;
            case 12: case 13: same("hollow(" + t + ")", tried.hollow(t), due.hollow(t)); break;
            case 14: case 15: int d = up(7); same("last(" + a + ", " + d + ")", tried.last(a, d), due.last(a, d)); break;
            case 16: int w = up(1); same("best(" + v + ", " + w + ")", tried.best(v, w), due.best(v, w)); break;
            case 17: int q = up(2); same("two(" + v + ", " + q + ")", tried.two(v, q), due.two(v, q)); break;
            case 18: same("part(" + upper + ")", tried.part(upper), due.part(upper)); break;
            case 19: case 20: askJudge(); break;
            case 21: int o = up(1); same("find(" + a + ", " + o + ")", tried.find(a, o), due.find(a, o)); break;
            case 22: if (random.nextInt(4) == 0) same("lose()", tried.lose(), due.lose()); break;
            case 23: same("which()", tried.which(), due.which()); break;
            case 24: same("share(" + t + ", " + upper + ")", tried.share(t, upper), due.share(t, upper)); break;
            case 25: int x = up(10);
                same("chance(" + a + ", " + x + ", " + upper + ")", tried.chance(a, x, upper), due.chance(a, x, upper));
                break;
            default: askDrawn(); break;
        }
    }

    private void askDrawn() {
        if (random.nextInt(3) == 0) {
            long s = random.nextLong();
            same("seed(" + s + ")", tried.seed(s), due.seed(s));
        }
        int m = up(20);
        same("drawn(" + m + ")", tried.drawn(m), due.drawn(m));
    }

    private void askJudge() {
        int n = random.nextInt(20) == 0 ? random.nextInt(6) - 1 : 1 + random.nextInt(3);
        long row = 0;
        for (int i = 0; i < n; i++) {
            row = row * 100000 + event();
        }
        if (random.nextInt(25) == 0) {
            row = random.nextLong() >> random.nextInt(64);
        }
        same("judge(" + n + ", " + row + ")", tried.judge(n, row), due.judge(n, row));
    }

    /** Mostly a possible event, and often a true statement. */
    private long event() {
        long cell = Math.floorMod(cell(), 100);
        long spoil = random.nextInt(8) == 0 ? random.nextInt(100) : 0;
        switch (random.nextInt(9)) {
            case 0: return 10000 + cell * 100 + random.nextInt(10) * 10 + spoil % 10;
            case 1: return 20000 + cell * 100 + random.nextInt(10) * 10 + spoil % 10;
            case 2: return 30000 + random.nextInt(6) * 1000 + spoil;
            case 3: return 40000 + tried.about(7) * 100 + spoil;
            case 4: return 50000 + cell * 100 + random.nextInt(2) * 10 + spoil % 10 * 10;
            case 5: return 50000 + cell * 100 + (tried.cell((int) cell, 2) > 0 ? 10 : 0) + spoil % 10;
            case 6: return 60000 + random.nextInt(5) * 1000 + random.nextInt(10) * 100 + spoil;
            case 7: return 70000 + tried.about(8) * 1000 + spoil;
            default: return random.nextInt(100000);
        }
    }
}
