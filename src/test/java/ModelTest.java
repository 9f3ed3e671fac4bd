import java.util.NoSuchElementException;
import java.util.Random;

/**
 * Runs of calls by fixed seeds on the class and on the model; each answer has to be the same. Plain
 * runs come to lands where nothing fits, and to much that is refused; lively ones undo what leaves
 * no life (one that fits, or one that is possible), and ask in bounds.
 */
final class ModelTest {
    /** What a run's last step takes beyond them (30 acts undone at most) stays below 512. */
    private static final int CALLS = 480;
    private static final int KINDS = 48;
    private static final long THROWN = -987654321L;
    /** What lively runs ask; what answers seldom otherwise, more often. */
    private static final int[] LIVELY = {8, 9, 10, 11, 12, 12, 13, 14, 15, 16, 17, 17, 18, 19, 20, 20, 21, 21, 21, 23, 24,
        25, 26, 27, 29, 30, 31, 31, 33, 34, 35, 36, 37, 38, 39, 40, 41, 43, 44};

    private final Random random;
    private final OathYesterday x = new OathYesterday();
    private final Model m = new Model();
    private final int size;
    private final boolean lively;
    private final StringBuilder story = new StringBuilder();
    private int calls = 0;
    private int landDays = 3;

    private ModelTest(long seed, int size, boolean lively) {
        random = new Random(seed);
        this.size = size;
        this.lively = lively;
    }

    static void run() {
        for (int seed = 1; seed <= 300; seed++) {
            new ModelTest(seed, 2 + seed % 2, false).play(seed, CALLS);
        }
        for (int seed = 1001; seed <= 1020; seed++) {
            new ModelTest(seed, 4, false).play(seed, 200);
        }
        for (int seed = 2001; seed <= 2004; seed++) {
            new ModelTest(seed, 5, false).play(seed, 90);
        }
        for (int seed = 3001; seed <= 3200; seed++) {
            new ModelTest(seed, 2 + seed / 2 % 2, true).play(seed, CALLS);
        }
        for (int seed = 4001; seed <= 4010; seed++) {
            new ModelTest(seed, 4, true).play(seed, 250);
        }
    }

    private void play(int seed, int atMost) {
        int failedAhead = Check.failed;
        boolean wild = seed % 10 == 0;
        begin();
        while (calls < atMost && Check.failed == failedAhead) {
            if (lively) {
                stepLively(seed % 2 == 0);
            } else {
                step(wild);
            }
        }
        if (Check.failed > failedAhead) {
            System.out.println("seed " + seed + ", last calls:" + tail());
        }
    }

    private String tail() {
        int from = Math.max(0, story.length() - 1500);
        return story.substring(from);
    }

    private void begin() {
        if (!lively && random.nextInt(4) == 0) {
            return;
        }
        tape(landText());
        call(2, 0, 0, 0, 0);
        int n = lively ? 4 + random.nextInt(5) : 1 + random.nextInt(8);
        for (int i = 0; i < n; i++) {
            tape(oathText(0));
            call(2, 1, 0, 0, 0);
        }
    }

    private void step(boolean wild) {
        int dice = random.nextInt(100);
        if (dice < 2) {
            tape(random.nextInt(3) == 0 ? spoiled(landText()) : landText());
            call(1 + random.nextInt(2), 0, 0, 0, 0);
        } else if (dice < 6) {
            tape(random.nextInt(3) == 0 ? spoiled(oathText(0)) : oathText(0));
            call(1 + random.nextInt(2), 1, 0, 0, 0);
        } else if (dice < 16) {
            call(4, random.nextInt(6), random.nextInt(8), random.nextInt(landDays + 1), cost());
        } else if (dice < 20) {
            call(6, random.nextInt(size), date(), random.nextInt(2), 0);
        } else if (dice < 26) {
            call(7, 0, 0, 0, 0);
        } else if (dice < 29) {
            call(22, random.nextInt(size), date(), random.nextInt(10), 0);
        } else if (dice < 32) {
            call(28, random.nextInt(8), random.nextInt(30), 0, 0);
        } else {
            ask(wild);
        }
    }

    private void ask(boolean wild) {
        int kind = random.nextInt(KINDS);
        if (kind < 3 && random.nextInt(10) != 0) {
            kind = 9;
        }
        int[] args = new int[4];
        int[] spans = spansOf(kind);
        for (int i = 0; i < 4; i++) {
            int dice = random.nextInt(wild ? 4 : 30);
            args[i] = dice == 0 ? strange() : random.nextInt(spans[i]);
        }
        if (kind == 9 || kind == 26 || kind == 35) {
            boolean asLife = kind != 9;
            args[asLife ? 0 : 2] = someLife();
        }
        if ((kind == 8 || kind == 26 || kind == 29) && random.nextInt(3) == 0) {
            args[kind == 29 ? 2 : 1] = -1;
        }
        call(kind, args[0], args[1], args[2], args[3]);
    }

    /** Lives that fit stay, or (fits false) lives that are possible, whatever was sworn. */
    private void stepLively(boolean fits) {
        if (random.nextInt(4) > 0) {
            askLively();
            return;
        }
        int dice = random.nextInt(10);
        if (dice < 4) {
            int day = landDays - (random.nextInt(3) == 0 ? random.nextInt(landDays) : 0);
            call(4, random.nextInt(3), random.nextInt(m.count(2)), day, 1 + cost());
        } else if (dice < 6) {
            call(6, random.nextInt(size), date(), random.nextInt(6) == 0 ? 1 : 0, 0);
        } else if (dice < 7) {
            call(22, random.nextInt(size), date(), random.nextInt(10), 0);
        } else if (dice < 8) {
            call(28, random.nextInt(m.count(2)), random.nextInt(100), 0, 0);
        } else if (dice < 9) {
            call(45 + random.nextInt(2), 0, 0, 0, 0);
        } else {
            for (int n = random.nextInt(6); n > 0; n--) {
                call(7, 0, 0, 0, 0);
            }
        }
        while (m.count(6) > 0 && m.lives(fits, -1) == 0) {
            call(7, 0, 0, 0, 0);
        }
    }

    private void askLively() {
        int kind = LIVELY[random.nextInt(LIVELY.length)];
        int[] spans = spansOf(kind);
        int[] args = new int[4];
        for (int i = 0; i < 4; i++) {
            boolean isOath = spans[i] == 8 && kind != 26;
            args[i] = random.nextInt(isOath ? m.count(2) : spans[i]);
        }
        if (kind == 9 || kind == 26 || kind == 35) {
            args[kind == 9 ? 2 : 0] = someLife();
        }
        if (kind == 26 || kind == 29) {
            args[kind == 29 ? 2 : 1] = random.nextInt(4) - 1;
        }
        if (kind == 21) {
            args[0] = random.nextInt(3);
            args[2] = date();
        }
        call(kind, args[0], args[1], args[2], args[3]);
    }

    private int strange() {
        int[] all = {-1, -2, 9, 10, 100, 8, 6, 7, Integer.MAX_VALUE, Integer.MIN_VALUE, 63, 64, 120};
        return random.nextInt(3) == 0 ? random.nextInt() : all[random.nextInt(all.length)];
    }

    private int someLife() {
        if (random.nextInt(8) == 0) {
            return strange();
        }
        if (random.nextInt(3) > 0) {
            int n = m.lives(false, -1);
            if (n > 0) {
                return m.lives(random.nextBoolean(), random.nextInt(n));
            }
        }
        int life = 0;
        for (int i = 0; i < size; i++) {
            life = 10 * life + (random.nextInt(4) == 0 ? 9 : random.nextInt(landDays));
        }
        return life;
    }

    private int cost() {
        return random.nextInt(3) == 0 ? random.nextInt(100) : random.nextInt(4);
    }

    private int date() {
        return random.nextInt(4) == 0 ? 9 : random.nextInt(landDays);
    }

    /** Of how many from 0 on an argument is ordinary. */
    private int[] spansOf(int kind) {
        int d = landDays + 1;
        switch (kind) {
            case 3: return new int[] {size, 3, 1, 1};
            case 5: return new int[] {10, 4, 1, 1};
            case 8: return new int[] {2, 30, 1, 1};
            case 9: case 17: case 32: return new int[] {8, d, 3, 1};
            case 10: return new int[] {size, 1, 1, 1};
            case 13: case 15: case 16: return new int[] {d, 1, 1, 1};
            case 14: return new int[] {d, 2, 1, 1};
            case 18: case 20: case 24: case 27: case 41: case 44: return new int[] {3, 1, 1, 1};
            case 19: return new int[] {6, 1, 1, 1};
            case 21: return new int[] {6, size, landDays, 2};
            case 22: return new int[] {size, landDays, 10, 1};
            case 23: case 31: return new int[] {8, d, 2, 1};
            case 25: case 34: return new int[] {8, d, 1, 1};
            case 26: return new int[] {1000, 8, 1, 1};
            case 29: return new int[] {d, 30, 6, 1};
            case 30: return new int[] {d, 30, 1, 1};
            case 33: return new int[] {8, 8, d, 1};
            case 35: return new int[] {1000, 2, 1, 1};
            case 36: return new int[] {6, landDays, 1, 1};
            case 38: return new int[] {8, 1, 1, 1};
            case 43: return new int[] {size, size, 3, 1};
            case 47: return new int[] {8, 1, 1, 1};
            default: return new int[] {8, 8, 8, 2};
        }
    }

    private void tape(String text) {
        record("end(0)", x.end(0) ? 1 : 0, m.end(0) ? 1 : 0);
        int[] numbers = Check.packed(text);
        for (int at = 0; at < numbers.length; at += 5) {
            int[] f = new int[5];
            System.arraycopy(numbers, at, f, 0, Math.min(5, numbers.length - at));
            record("feed of \"" + text + "\"", x.feed(f[0], f[1], f[2], f[3], f[4]),
                    m.feed(f[0], f[1], f[2], f[3], f[4]));
        }
    }

    private void record(String call, long got, long want) {
        calls++;
        story.append("\n  ").append(call).append(" -> ").append(got);
        Check.due(call, got, want);
    }

    private void call(int kind, int a, int b, int c, int d) {
        long got;
        long want;
        try {
            got = ofClass(kind, a, b, c, d);
        } catch (NoSuchElementException e) {
            got = kind == 3 ? THROWN : THROWN - 1;
        } catch (RuntimeException | StackOverflowError e) {
            got = THROWN - 2;
        }
        try {
            want = ofModel(kind, a, b, c, d);
        } catch (NoSuchElementException e) {
            want = THROWN;
        }
        record("call " + kind + "(" + a + ", " + b + ", " + c + ", " + d + ")", got, want);
        landDays = Math.max(2, m.count(1));
    }

    private long ofClass(int kind, int a, int b, int c, int d) {
        switch (kind) {
            case 0: return x.end(a) ? 1 : 0;
            case 1: return x.fault(a);
            case 2: return x.text(a);
            case 3: return x.deed(a, b);
            case 4: return x.swear(a, b, c, d);
            case 5: return x.sworn(a, b);
            case 6: return x.fact(a, b, c == 1);
            case 7: return x.undo();
            case 8: return x.lives(a == 1, b);
            case 9: return x.holds(a, b, c);
            case 10: return x.when(a);
            case 11: return x.breaks();
            case 12: return x.clash();
            case 13: return x.may(a);
            case 14: return x.most(a, b);
            case 15: return x.hinders(a);
            case 16: return x.must(a);
            case 17: return x.care(a, b, c);
            case 18: return x.perjured(a);
            case 19: return x.guilt(a);
            case 20: return x.blame(a);
            case 21: return x.worth(a, b, c, d == 1);
            case 22: return x.weigh(a, b, c) ? 1 : 0;
            case 23: return x.odds(a, b, c);
            case 24: return x.question(a);
            case 25: return x.settled(a, b);
            case 26: return x.rings(a, b);
            case 27: return x.fall(a);
            case 28: return x.stake(a, b) ? 1 : 0;
            case 29: return x.duel(a, b, c);
            case 30: return x.bait(a, b);
            case 31: return x.plan(a, b, c);
            case 33: return x.implies(a, b, c);
            case 34: return x.same(a, b);
            case 35: return x.near(a, b);
            case 36: return x.alibi(a, b);
            case 37: return x.hands();
            case 38: return x.days(a);
            case 39: return x.likeliest();
            case 40: return x.drawn((long) a * b + c);
            case 41: return x.busy(a);
            case 42: return x.mean(a & 3);
            case 43: return x.rows(a, b, c);
            case 44: return x.mean(a);
            case 45: return x.image();
            case 46: return x.back();
            default: return x.count(a);
        }
    }

    private long ofModel(int kind, int a, int b, int c, int d) {
        switch (kind) {
            case 0: return m.end(a) ? 1 : 0;
            case 1: return m.fault(a);
            case 2: return m.text(a);
            case 3: return m.deed(a, b);
            case 4: return m.swear(a, b, c, d);
            case 5: return m.sworn(a, b);
            case 6: return m.fact(a, b, c == 1);
            case 7: return m.undo();
            case 8: return m.lives(a == 1, b);
            case 9: return m.holds(a, b, c);
            case 10: return m.when(a);
            case 11: return m.breaks();
            case 12: return m.clash();
            case 13: return m.may(a);
            case 14: return m.most(a, b);
            case 15: return m.hinders(a);
            case 16: return m.must(a);
            case 17: return m.care(a, b, c);
            case 18: return m.perjured(a);
            case 19: return m.guilt(a);
            case 20: return m.blame(a);
            case 21: return m.worth(a, b, c, d == 1);
            case 22: return m.weigh(a, b, c) ? 1 : 0;
            case 23: return m.odds(a, b, c);
            case 24: return m.question(a);
            case 25: return m.settled(a, b);
            case 26: return m.rings(a, b);
            case 27: return m.fall(a);
            case 28: return m.stake(a, b) ? 1 : 0;
            case 29: return m.duel(a, b, c);
            case 30: return m.bait(a, b);
            case 31: return m.plan(a, b, c);
            case 33: return m.implies(a, b, c);
            case 34: return m.same(a, b);
            case 35: return m.near(a, b);
            case 36: return m.alibi(a, b);
            case 37: return m.hands();
            case 38: return m.days(a);
            case 39: return m.likeliest();
            case 40: return m.drawn((long) a * b + c);
            case 41: return m.busy(a);
            case 42: return m.mean(a & 3);
            case 43: return m.rows(a, b, c);
            case 44: return m.mean(a);
            case 45: return m.image();
            case 46: return m.back();
            default: return m.count(a);
        }
    }

    private String landText() {
        int days = 2 + random.nextInt(size > 3 ? 5 : 4);
        StringBuilder t = new StringBuilder("t").append(days);
        int deeds = lively || size > 3 ? size : 1 + random.nextInt(size);
        for (int i = 0; i < deeds; i++) {
            t.append(";e");
            if (random.nextInt(3) > 0) {
                t.append('p').append(random.nextInt(6));
            }
            int from = random.nextInt(days);
            int last = from + random.nextInt(days - from);
            if (size > 3) {
                from = 0;
                last = days - 1 - random.nextInt(2);
            }
            boolean lastFirst = random.nextBoolean();
            String f = random.nextInt(2) == 0 ? "" : "f" + from;
            String l = random.nextInt(2) == 0 ? "" : "l" + last;
            t.append(lastFirst ? l + f : f + l);
        }
        return blanked(t.toString());
    }

    private String oathText(int depth) {
        StringBuilder t = new StringBuilder();
        int choices = 1 + (random.nextInt(3) == 0 ? 1 : 0);
        for (int i = 0; i < choices; i++) {
            t.append(i == 0 ? "" : "|");
            int units = 1 + (random.nextInt(3) == 0 ? 1 : 0);
            for (int k = 0; k < units; k++) {
                t.append(k == 0 ? "" : "&").append(unitText(depth));
            }
        }
        return depth == 0 ? blanked(t.toString()) : t.toString();
    }

    private String unitText(int depth) {
        char letter = (char) ('a' + random.nextInt(random.nextInt(10) == 0 ? 5 : size));
        char other = (char) ('a' + random.nextInt(size));
        int dice = random.nextInt(depth < 6 ? 11 : 8);
        switch (dice) {
            case 0: case 1: return "" + letter;
            case 2: case 3: return "" + letter + random.nextInt(6);
            case 4: return letter + "<" + other;
            case 5: return letter + "=" + other;
            case 6: case 7: return "#" + random.nextInt(random.nextInt(5) == 0 ? 10 : 4);
            case 8: return depth < 3 ? "(" + oathText(depth + 1) + ")" : "!" + unitText(depth + 1);
            default: return "!" + unitText(depth + 1);
        }
    }

    private String blanked(String text) {
        if (random.nextInt(4) > 0) {
            return text;
        }
        StringBuilder t = new StringBuilder();
        for (int i = 0; i < text.length(); i++) {
            t.append(random.nextInt(4) == 0 ? " " : "").append(text.charAt(i));
        }
        return t.append(random.nextInt(3) == 0 ? " " : "").toString();
    }

    private String spoiled(String text) {
        String signs = "t23456;epfl01 abcd!()#&|<=789x\u00ff";
        StringBuilder t = new StringBuilder(text);
        int at = random.nextInt(text.length());
        char sign = signs.charAt(random.nextInt(signs.length()));
        switch (random.nextInt(4)) {
            case 0: t.setCharAt(at, sign); break;
            case 1: t.insert(at, sign); break;
            case 2: t.deleteCharAt(at); break;
            default: t.setLength(at); break;
        }
        return t.toString();
    }
}
