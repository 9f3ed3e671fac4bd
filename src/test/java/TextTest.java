/** Faults of texts: by hand, and of all short texts as the model's machine of states finds them. */
final class TextTest {
    private static final int NONE = OathYesterday.NONE;

    private TextTest() {
    }

    static void run() {
        sorts();
        lands();
        oaths();
        depths();
        longOaths();
        allShortOnes();
    }

    private static void fault(int sort, String text, int want) {
        OathYesterday x = new OathYesterday();
        Check.tape(x, text);
        Check.due("fault(" + sort + ") of \"" + text + "\"", x.fault(sort), want);
        Check.due("the tape stays", x.count(3), text.length());
        Check.due("text of it", x.text(sort) == NONE, want != NONE);
    }

    private static void sorts() {
        OathYesterday x = Check.made("t2;e");
        int[] wrong = {2, -1, 3, Integer.MAX_VALUE, Integer.MIN_VALUE};
        for (int sort : wrong) {
            Check.due("fault(" + sort + ")", x.fault(sort), -2);
            Check.due("text(" + sort + ")", x.text(sort), NONE);
        }
    }

    private static void lands() {
        String[] fine = {"t2;e", "t6;e;e;e;e;e", " t 4 ; e p 5 f 1 l 3 ", "t3;ef2l2", "t3;el0f0", "t6;ef5", "t3;ep1f1l1;e",
            "t2;el1p0f1", "  t2;e  "};
        for (String text : fine) {
            fault(0, text, NONE);
        }
        Object[][] wrong = {{"", 0}, {"   ", 3}, {"x", 0}, {" x", 1}, {"T2;e", 0}, {"t", 1}, {"t1;e", 1}, {"t7;e", 1},
            {"t0", 1}, {"t 9", 2}, {"tt", 1}, {"t3", 2}, {"t3 ", 3}, {"t3e", 2}, {"t3;", 3}, {"t3;;", 3}, {"t3;p", 3},
            {"t3;ep", 5}, {"t3;ep6", 5}, {"t3;ep/", 5}, {"t3;ep:", 5}, {"t3;eo1", 4}, {"t3;epp", 5}, {"t3;ep1p", 6}, {"t3;ep1p1", 6}, {"t3;ef3", 5},
            {"t3;el3", 5}, {"t6;ef6", 5}, {"t3;ef2l1", 7}, {"t3;el1f2", 7}, {"t3;ef1f1", 6}, {"t3;el1l1", 6},
            {"t3;ef1 l 0", 9}, {"t3;e1", 4}, {"t3;ex", 4}, {"t3;ee", 4}, {"t3;e;e;e;e;e;", 12},
            {"t3;e;e;e;e;e;e", 12}, {"t3;e;e;e;e;e ; e", 13}, {"t3;e;e;", 7}, {"t3;ea", 4}, {"t3;e\u00ff", 4}, {"\u0001", 0},
            {"t3;e\t", 4}, {"t3;ep1f0l2p1", 10}, {"t3;ep1f0l2;p", 11}, {"t2;el2", 5}, {"t2;ef2", 5}, {"33;e", 0}};
        for (Object[] w : wrong) {
            fault(0, (String) w[0], (Integer) w[1]);
        }
    }

    private static void oaths() {
        String[] fine = {"a", "e", "a0", "a5", "a<b", "a=a", "#0", "#9", "!a", "!!a", "(a)", "((a))", "a&b|c", "a0&!b<c|#3",
            " a ", "a 5", "# 9", "a < b", "! ( a | b )", "e<e&e=e", "(a)&(b)", "!(a)", "!#0"};
        for (String text : fine) {
            fault(1, text, NONE);
        }
        Object[][] wrong = {{"", 0}, {"  ", 2}, {"f", 0}, {"A", 0}, {"a6", 1}, {"a9", 1}, {"a 7", 2}, {"a55", 2}, {"a0<b", 2},
            {"aa", 1}, {"a<", 2}, {"a<f", 2}, {"a<1", 2}, {"a<b<c", 3}, {"a<b1", 3}, {"a=b=c", 3}, {"a=(b)", 2},
            {"#", 1}, {"#:", 1}, {"a:", 1}, {"a/", 1}, {"`", 0}, {"#a", 1}, {"##", 1}, {"#10", 2}, {"#1<a", 2}, {"&a", 0}, {"|a", 0}, {"a&", 2}, {"a|", 2},
            {"a&&b", 2}, {"a|&b", 2}, {"(", 1}, {"()", 1}, {"(a", 2}, {"(a ", 3}, {"a)", 1}, {"(a))", 3}, {"(a b)", 3},
            {"!", 1}, {"!)", 1}, {"a!", 1}, {"a(b)", 1}, {"(a)b", 3}, {"!&a", 1}, {"a\u0080", 1}, {"1", 0}, {"<a", 0},
            {"(a|b&)", 5}, {"!a!", 2}, {"(a)1", 3}, {"t2;e", 0}};
        for (Object[] w : wrong) {
            fault(1, (String) w[0], (Integer) w[1]);
        }
    }

    private static void depths() {
        fault(1, "!!!!!!a", NONE);
        fault(1, "!!!!!!!a", 6);
        fault(1, "((((((a))))))", NONE);
        fault(1, "(((((((a)))))))", 6);
        fault(1, "!(!(!(a)))", NONE);
        fault(1, "!(!(!(!a)))", 6);
        fault(1, "!(!(!((a))))", 6);
        fault(1, "(a&!(b|!(c&!d)))", NONE);
        fault(1, "(a&!(b|!(c&!!d)))", 12);
        fault(1, "!!!!!!a&!!!!!!b|((((((c))))))&(a)", NONE);
        fault(1, "!!!!!!a&!!!!!!b|!!!!!!!c", 22);
        fault(1, "(!!!!!a&!!!!!b)", NONE);
        fault(1, "(!!!!!a&!!!!!!b)", 13);
        fault(1, "( ( ( ( ( ( (", 12);
    }

    /** Texts that fill the tape, and the deepest ones of what they need. */
    private static void longOaths() {
        StringBuilder t = new StringBuilder("a");
        while (t.length() < 119) {
            t.append(t.length() % 4 == 1 ? "&b" : "|a");
        }
        fault(1, t.toString(), NONE);
        fault(1, t + "&", 120);
        fault(1, t + " ", NONE);
        String deep = "a|b&(a|b&(a|b&(a|b&(a|b&(a|b&(a|b&c))))))";
        fault(1, deep, NONE);
        OathYesterday x = Check.made("t2;e;e;e", deep);
        Check.due("none", x.holds(0, 2, 999), 0);
        Check.due("a alone", x.holds(0, 2, 99), 1);
        Check.due("b and c", x.holds(0, 2, 900), 1);
        Check.due("b alone", x.holds(0, 2, 909), 0);
        Check.due("a", x.holds(0, 2, 199), 1);
        String high = "((((((a0|a1)&b|c)&b|c)&b|c)&b|c)&b|c)";
        OathYesterday y = Check.made("t2;e;e;e", high);
        Check.due("neither", y.holds(0, 2, 99), 0);
        Check.due("a and b", y.holds(0, 2, 109), 1);
        Check.due("c", y.holds(0, 2, 990), 1);
    }

    private static void allShortOnes() {
        compare(1, "", "a0#!(<)& |=6e", 5);
        compare(1, "!(!((", "a!)(&#1", 5);
        compare(0, "", "t3;e p", 5);
        compare(0, "t3;e", "pfl013;e ", 5);
        compare(0, "t5;e;ef1;ep1l3;e", ";epf4l2", 5);
    }

    /** All texts of up to so many signs behind a beginning. */
    private static void compare(int sort, String ahead, String signs, int most) {
        OathYesterday x = new OathYesterday();
        Model m = new Model();
        int all = 1;
        for (int length = 0; length <= most; length++) {
            for (int n = 0; n < all; n++) {
                StringBuilder t = new StringBuilder(ahead);
                int rest = n;
                for (int i = 0; i < length; i++) {
                    t.append(signs.charAt(rest % signs.length()));
                    rest /= signs.length();
                }
                same(x, m, sort, t.toString());
            }
            all *= signs.length();
            if (all > 200000) {
                return;
            }
        }
    }

    private static void same(OathYesterday x, Model m, int sort, String text) {
        Check.tape(x, text);
        m.end(0);
        int[] numbers = Check.packed(text);
        for (int at = 0; at < numbers.length; at += 5) {
            int[] f = new int[5];
            System.arraycopy(numbers, at, f, 0, Math.min(5, numbers.length - at));
            m.feed(f[0], f[1], f[2], f[3], f[4]);
        }
        int want = m.fault(sort);
        if (x.fault(sort) != want) {
            Check.due("fault(" + sort + ") of \"" + text + "\"", x.fault(sort), want);
        }
        Check.passed += x.fault(sort) == want ? 1 : 0;
    }
}
