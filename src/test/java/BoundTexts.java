/** Boundaries of promises 1 to 6: the tape, the texts and their faults. */
final class BoundTexts {
    private static final int NONE = OathYesterday.NONE;

    private BoundTexts() {
    }

    static void run() {
        newObject();
        calls();
        constants();
        feedOrder();
        feedFull();
        end();
        faultSorts();
        faultTooEarly();
        landDays();
        landDeeds();
        landItems();
        landDoer();
        landFrom();
        landLast();
        deedLetters();
        oathSigns();
        oathLetters();
        oathDepth();
        blanks();
        faultsThatAreSuch();
        textTaken();
        textRefused();
        textEight();
        textOfAnotherLand();
        deed();
    }

    private static void newObject() {
        Bound b = Bound.of(1, "No LAND.");
        OathYesterday x = new OathYesterday();
        for (int what = 0; what < 7; what++) {
            b.due("count(" + what + ")", x.count(what), 0);
        }
        b.due("lives", x.lives(false, NONE), NONE);
        b.due("hands", x.hands(), NONE);
        b.due("image", x.image(), NONE);
        b.due("deed(0, 0)", Check.deed(x, 0, 0), Bound.THROWN);
        b.due("fault of the empty tape", x.fault(0), 0);
    }

    private static void calls() {
        Bound b = Bound.term(48, "An object is used for at most 512 calls after it has been made");
        OathYesterday x = new OathYesterday();
        x.feed(0x74323b65, 0, 0, 0, 0);
        x.text(0);
        x.feed(0x61000000, 0, 0, 0, 0);
        x.text(1);
        for (int call = 5; call <= 511; call++) {
            int answer = call % 2 == 1 ? x.swear(0, 0, 2, 1) : x.undo();
            b.due("call " + call, answer, call % 2);
        }
        b.due("call 512", x.lives(true, NONE), 2);
    }

    private static void constants() {
        Bound none = Bound.term(48, "int NONE = -1;");
        none.due("NONE", OathYesterday.NONE, -1);
        Bound hidden = Bound.term(48, "int HIDDEN = -1000000;");
        hidden.due("HIDDEN", OathYesterday.HIDDEN, -1000000);
    }

    // ---- the tape

    private static long feedAt(OathYesterday x, int place, int sign) {
        int[] f = new int[5];
        f[place / 4] = sign << 24 - place % 4 * 8;
        return x.feed(f[0], f[1], f[2], f[3], f[4]);
    }

    private static long feed20(OathYesterday x, String text) {
        int[] f = Check.packed(text);
        return x.feed(f[0], f[1], f[2], f[3], f[4]);
    }

    private static void feedOrder() {
        Bound twenty = Bound.of(2, "Twenty bytes more come to the TAPE");
        OathYesterday x = new OathYesterday();
        twenty.due("twenty", feed20(x, "t6;e;e;e;e;ep5f1l2  "), 20);
        twenty.due("they are a land", x.text(0), 5);
        int[] last = {5, 1, 2};
        for (int what = 0; what < 3; what++) {
            twenty.due("deed(4, " + what + ")", Check.deed(x, 4, what), last[what]);
        }
        Bound order = Bound.of(2, "(of each number the highest first; bytes of 0 are left out): how many it has");
        OathYesterday y = new OathYesterday();
        order.due("nothing but 0", y.feed(0, 0, 0, 0, 0), 0);
        order.due("0 between", y.feed(0x74000000, 0x00320000, 0x00003b00, 0x00000065, 0), 4);
        order.due("it is t2;e", y.fault(0), NONE);
        order.due("0 in the midst of a number", y.feed(0x70000033, 0, 0, 0, 0), 6);
        order.due("it is t2;ep3", y.text(0), 1);
        order.due("its doer", Check.deed(y, 0, 0), 3);
        for (int place = 0; place < 20; place++) {
            OathYesterday z = new OathYesterday();
            order.due("255 at " + place, feedAt(z, place, 255), 1);
            order.due("128 at " + place, feedAt(z, place, 128), 2);
            order.due("1 at " + place, feedAt(z, place, 1), 3);
        }
        order.due("twenty of 255", new OathYesterday().feed(-1, -1, -1, -1, -1), 20);
    }

    private static void feedFull() {
        Bound b = Bound.of(2, "NONE: more than 120.");
        String x100 = "x".repeat(100);
        b.due("100 and 20", feed20(Bound.taped(x100), "y".repeat(20)), 120);
        b.refused("101 and 20", () -> Bound.taped(x100 + "x"), NONE, x -> feed20(x, "y".repeat(20)));
        b.due("101 and 19", feed20(Bound.taped(x100 + "x"), "y".repeat(19)), 120);
        String x119 = "x".repeat(119);
        b.due("119 and 1", feedAt(Bound.taped(x119), 9, 'y'), 120);
        b.refused("119 and 2", () -> Bound.taped(x119), NONE, x -> x.feed('y', 'y', 0, 0, 0));
        b.refused("119 and 2 far apart", () -> Bound.taped(x119), NONE, x -> x.feed('y' << 24, 0, 0, 0, 'y'));
        for (int place = 0; place < 20; place++) {
            int at = place;
            for (int sign : new int[] {1, 128, 255}) {
                String what = "120 and a byte of " + sign + " at " + place;
                b.refused(what, () -> Bound.taped(x119 + "x"), NONE, x -> feedAt(x, at, sign));
            }
        }
        OathYesterday full = Bound.taped(x119 + "x");
        b.due("120 and 0", full.feed(0, 0, 0, 0, 0), 120);
        b.due("120 stay", full.count(3), 120);
        b.due("one less", full.end(119), true);
        b.due("and one more", feedAt(full, 0, 'y'), 120);
    }

    private static void end() {
        Bound taken = Bound.of(3, "The TAPE has its first n bytes alone.");
        Bound refused = Bound.of(3, "False: n.");
        for (int length : new int[] {0, 1, 7, 120}) {
            String text = "x".repeat(length);
            for (int n : new int[] {0, length - 1, length}) {
                if (n >= 0) {
                    OathYesterday x = Bound.taped(text);
                    taken.due("end(" + n + ") of " + length, x.end(n), true);
                    taken.due("bytes", x.count(3), n);
                }
            }
            refused.refusedBy("end of " + length + " by", () -> Bound.taped(text), 0,
                    (x, v) -> x.end(v) ? 1 : 0, -1, length + 1, 121);
        }
        OathYesterday x = Bound.taped("t4;el");
        x.end(4);
        taken.due("the first four", x.fault(0), NONE);
        x.feed(0x70350000, 0, 0, 0, 0);
        taken.due("those behind are gone", x.text(0), 1);
        taken.due("what came behind the four", Check.deed(x, 0, 0), 5);
    }

    // ---- faults

    /** The fault of a text as a land (0) or an oath (1); text takes it, or refuses it. */
    private static void fault(Bound b, int sort, String text, int want) {
        b.due("fault(" + sort + ") of \"" + text + "\"", Bound.taped(text).fault(sort), want);
        OathYesterday x = Bound.taped(text);
        b.due("the tape stays", x.fault(sort) == want ? x.count(3) : NONE, text.length());
        if (want == NONE) {
            b.due("text(" + sort + ") of \"" + text + "\"", x.text(sort), sort == 0 ? x.count(0) : 6);
        } else {
            b.refused("text(" + sort + ") of \"" + text + "\"", () -> Bound.taped(text), NONE, y -> y.text(sort));
        }
    }

    private static void faults(Bound b, int sort, int want, String... texts) {
        for (String text : texts) {
            fault(b, sort, text, want);
        }
    }

    private static void faultSorts() {
        Bound sorts = Bound.of(4, "The FAULT of the TAPE as a LAND (0), an OATH (1).");
        sorts.due("a land as a land", Bound.taped("t2;e").fault(0), NONE);
        sorts.due("a land as an oath", Bound.taped("t2;e").fault(1), 0);
        sorts.due("an oath as an oath", Bound.taped("a|b").fault(1), NONE);
        sorts.due("an oath as a land", Bound.taped("a|b").fault(0), 0);
        Bound none = Bound.of(4, "NONE: none.");
        none.due("the shortest land", Bound.taped("t2;e").fault(0), NONE);
        none.due("the shortest oath", Bound.taped("e").fault(1), NONE);
        none.due("a land of 120 bytes", Bound.taped("t2;e" + " ".repeat(116)).fault(0), NONE);
        none.due("an oath of 120 bytes", Bound.taped("a&".repeat(59) + "a1").fault(1), NONE);
        for (String text : new String[] {"t6;ep5f1l2;ep4", "!b|#3&c", "t2;ep5x", "!(b", ""}) {
            OathYesterday asked = eight(text);
            for (int i = 0; i < 4; i++) {
                asked.fault(i % 2);
            }
            sorts.due("to ask of \"" + text + "\" changes nothing", Bound.look(asked).equals(Bound.look(eight(text))), true);
        }
        Bound.of(4, "-2: no such sort.").refusedBy("fault", Bound::rich, -2, (x, v) -> x.fault(v), -2, -1, 2, 3);
    }

    private static void faultTooEarly() {
        Bound b = Bound.term(4, "the first byte at which no such TEXT can go on (the length, if it ends too early)");
        String[] lands = {"", " ", "t", "t2", "t2 ", "t2;", "t2;ep", "t2;ef", "t2;el", "t2;ep ", "t2;e;", "t2;e;e;e;e;"};
        for (String text : lands) {
            fault(b, 0, text, text.length());
        }
        String[] oaths = {"", "  ", "!", "(", "#", "a<", "a=", "a&", "a|", "(a", "(a ", "!(", "a&(", "a|b&", "((a)", "!!!!!!",
            "((((((", "# ", "a< ", "a|".repeat(60)};
        for (String text : oaths) {
            fault(b, 1, text, text.length());
        }
        fault(b, 0, "x", 0);
        fault(b, 1, "x", 0);
        fault(b, 0, "t2;ex", 4);
        fault(b, 0, "t2;e;x", 5);
        fault(b, 1, "a|x", 2);
        fault(b, 1, "a".repeat(120), 1);
        fault(b, 1, "a&".repeat(59) + "aa", 119);
        fault(b, 0, "t2;e" + " ".repeat(115) + "x", 119);
    }

    private static void landDays() {
        Bound b = Bound.term(4, "t and how many DAYS (2 .. 6)");
        for (int days = 0; days <= 9; days++) {
            fault(b, 0, "t" + days + ";e", days >= 2 && days <= 6 ? NONE : 1);
        }
        faults(b, 0, 1, "t/;e", "t:;e", "t;e", "tt2;e", "t-2;e", "t\u00b2;e");
        faults(b, 0, 0, "2;e", ";e", "T2;e", "s2;e", "u2;e");
        faults(b, 0, 2, "t22;e", "t2t;e");
        for (int days = 2; days <= 6; days++) {
            OathYesterday x = Check.made("t" + days + ";e");
            b.due("days", x.count(1), days);
            b.due("lives", x.lives(false, NONE), days + 1);
        }
    }

    private static void landDeeds() {
        Bound b = Bound.term(4, "then DEEDS, one to five, each with ; ahead: e");
        fault(b, 0, "t3", 2);
        StringBuilder text = new StringBuilder("t3");
        for (int deeds = 1; deeds <= 5; deeds++) {
            text.append(";e");
            fault(b, 0, text.toString(), NONE);
            b.due("deeds", Check.made(text.toString()).count(0), deeds);
        }
        fault(b, 0, text + ";e", 12);
        fault(b, 0, text + ";", 12);
        faults(b, 0, 2, "t3e", "t3:e", "t3,e", "t3p1");
        faults(b, 0, 3, "t3;;e", "t3;p1", "t3;a", "t3;E", "t3;d", "t3;f");
        faults(b, 0, 4, "t3;ee", "t3;e,e", "t3;e:e");
        faults(b, 0, 6, "t3;e;ee");
    }

    private static void landItems() {
        Bound b = Bound.term(4, "then ITEMS, none or more: a letter, each once at most in a DEED, and a digit");
        faults(b, 0, NONE, "t3;e", "t3;ep1", "t3;ef1", "t3;el1", "t3;ep1f1l1", "t3;el1f1p1", "t3;ef1p1l1");
        faults(b, 0, NONE, "t3;ep1;ep1", "t3;ef1;ef1", "t3;el1;el1", "t3;ep1f1l1;ep1f1l1");
        faults(b, 0, 6, "t3;ep1p1", "t3;ep1p2", "t3;ef1f1", "t3;el1l1", "t3;ep1p", "t3;ef1f", "t3;el1l");
        faults(b, 0, 8, "t3;ep1f1p1", "t3;ep1f1f1", "t3;ef1l1f1", "t3;ef1l1l1", "t3;el1p1p1");
        faults(b, 0, 10, "t3;ep1f1l1p1", "t3;ep1f1l1f1", "t3;ep1f1l1l1", "t3;ep1f1l1e");
        faults(b, 0, 8, "t3;e;ep1p1");
        faults(b, 0, 4, "t3;e1", "t3;eo1", "t3;eq1", "t3;eg1", "t3;em1", "t3;ek1", "t3;eP1", "t3;et1");
        faults(b, 0, 5, "t3;epp1", "t3;epf1", "t3;ef;e", "t3;el;e", "t3;ep/", "t3;ep:");
        faults(b, 0, 6, "t3;ep11", "t3;ef11", "t3;el11");
    }

    private static void landDoer() {
        Bound b = Bound.term(4, "p its DOER (0 .. 5; 0 without)");
        for (int p = 0; p <= 9; p++) {
            fault(b, 0, "t2;ep" + p, p <= 5 ? NONE : 5);
        }
        for (int p = 0; p <= 5; p++) {
            OathYesterday x = Check.made("t2;e;ep" + p + ";ef1");
            b.due("p" + p, Check.deed(x, 1, 0), p);
            b.due("without", Check.deed(x, 0, 0), 0);
            b.due("without, behind one", Check.deed(x, 2, 0), 0);
            Check.land(x, "t2;ep" + p);
            Check.land(x, "t2;e;e");
            b.due("without, in a land behind one", Check.deed(x, 0, 0), 0);
            b.due("likewise of the second deed", Check.deed(x, 1, 0), 0);
            Check.tape(x, "t2;ep" + p + ";ep" + p + "x");
            x.fault(0);
            Check.land(x, "t2;e;e");
            b.due("without, behind a faulty text", Check.deed(x, 0, 0), 0);
        }
    }

    private static void landFrom() {
        Bound b = Bound.term(4, "f FROM which day it can be done (0 .. 5; below DAYS; 0)");
        for (int days = 2; days <= 6; days++) {
            for (int f = 0; f <= 9; f++) {
                String text = "t" + days + ";ef" + f;
                fault(b, 0, text, f < days ? NONE : 5);
                if (f < days) {
                    b.due("FROM of " + text, Check.deed(Check.made(text), 0, 1), f);
                    b.due("lives of " + text, Check.made(text).lives(false, 0), f);
                }
            }
        }
        OathYesterday x = Check.made("t6;ef5;e;el0");
        b.due("without, behind one", Check.deed(x, 1, 1), 0);
        b.due("without, with l", Check.deed(x, 2, 1), 0);
    }

    private static void landLast() {
        Bound b = Bound.term(4, "l the LAST day on which it can (0 .. 5; below DAYS, no less than f as it is told so "
                + "far; DAYS less 1 without; f likewise no more than l told so far)");
        for (int days = 2; days <= 6; days++) {
            for (int l = 0; l <= 9; l++) {
                String text = "t" + days + ";el" + l;
                fault(b, 0, text, l < days ? NONE : 5);
                if (l < days) {
                    b.due("LAST of " + text, Check.deed(Check.made(text), 0, 2), l);
                    b.due("lives of " + text, Check.made(text).lives(false, NONE), l + 2);
                }
            }
            b.due("LAST without", Check.deed(Check.made("t" + days + ";e"), 0, 2), days - 1);
            b.due("LAST without, with f", Check.deed(Check.made("t" + days + ";ef1"), 0, 2), days - 1);
        }
        for (int f = 0; f < 6; f++) {
            for (int l = 0; l < 6; l++) {
                fault(b, 0, "t6;ef" + f + "l" + l, l >= f ? NONE : 7);
                fault(b, 0, "t6;el" + l + "f" + f, l >= f ? NONE : 7);
                fault(b, 0, "t6;el" + l + "p3f" + f, l >= f ? NONE : 9);
            }
        }
        faults(b, 0, NONE, "t6;ef3;el0", "t6;el0;ef5");
        faults(b, 0, 7, "t5;ef4l5", "t5;el4f5");
    }

    private static void deedLetters() {
        Bound b = Bound.term(12, "DEEDS are letters a .. e in this order.");
        String[] letters = {"a", "b", "c", "d", "e"};
        OathYesterday x = Check.made(Bound.BIG, letters);
        int[] lives = {9999, 90999, 99099, 99909, 99990};
        for (int oath = 0; oath < 5; oath++) {
            for (int deed = 0; deed < 5; deed++) {
                b.due(letters[oath] + " in " + lives[deed], x.holds(oath, 1, lives[deed]), oath == deed ? 1 : 0);
            }
        }
        OathYesterday y = Check.made("t2;ep0;ep1;ep2;ep3;ep4");
        for (int deed = 0; deed < 5; deed++) {
            b.due("doer of " + deed, Check.deed(y, deed, 0), deed);
        }
    }

    private static void oathSigns() {
        Bound digit = Bound.term(4, "# and a digit 0 .. 9");
        for (int k = 0; k <= 9; k++) {
            fault(digit, 1, "#" + k, NONE);
        }
        faults(digit, 1, 1, "#", "#/", "#:", "#a", "##0", "#-1", "#!0", "#(0)");
        faults(digit, 1, 2, "#10", "#0a", "#0<a", "#0=a", "#0#0", "#0!a", "#0(a)");
        Bound day = Bound.term(4, "or a DEED's letter a .. e, then perhaps: a digit 0 .. 5, or one of < =, and a DEED's letter");
        for (int k = 0; k <= 9; k++) {
            fault(day, 1, "a" + k, k <= 5 ? NONE : 1);
            fault(day, 1, "e" + k, k <= 5 ? NONE : 1);
        }
        faults(day, 1, NONE, "a", "e", "a<e", "e<a", "a=e", "e=a", "a<a", "e=e");
        faults(day, 1, 1, "a/", "a:", "a;", "a>b", "aa", "a!", "a(b)", "a#0");
        faults(day, 1, 2, "a<", "a=", "a<0", "a<=b", "a==b", "a<f", "a=`", "a<!b", "a<(b)", "a0<b", "a0=b", "a00", "a05");
        faults(day, 1, 3, "a<b0", "a=b5", "a<b<c", "a=b=c", "a<b=c", "a<ba");
        Bound choices = Bound.term(4, "CHOICES with | between");
        faults(choices, 1, NONE, "a|b", "a|a|a|a|a|a|a|a", "(a|b)", "a" + "|a".repeat(59));
        faults(choices, 1, 0, "|", "|a");
        faults(choices, 1, 2, "a|", "a||b", "a|)");
        Bound units = Bound.term(4, "UNITS with & between");
        faults(units, 1, NONE, "a&b", "a&b|c&d", "a" + "&a".repeat(59));
        faults(units, 1, 0, "&", "&a");
        faults(units, 1, 2, "a&", "a&&b", "a&|b", "a|&b");
        Bound unit = Bound.term(4, "UNIT: ! UNIT, ( OATH ),");
        faults(unit, 1, NONE, "!a", "!#0", "!(a)", "!a<b", "!a0", "(a)", "((a))", "(!a)", "(a)&(b)", "!!a");
        faults(unit, 1, 1, "!", "!)", "!&a", "()", "(&a)", "(|a)", "(");
        faults(unit, 1, 2, "a&)", "!a!", "!a(");
        faults(unit, 1, 3, "(a))", "(a)a", "(a)0", "(a)(b)", "(a)!b", "(a)<b");
        fault(unit, 1, "a)", 1);
    }

    private static void oathLetters() {
        Bound b = Bound.term(4, "(A letter of an OATH is a .. e, whether there is such a DEED or not.)");
        for (char c = 1; c < 256; c++) {
            if (c != ' ' && c != '!' && c != '(' && c != '#') {
                boolean letter = c >= 'a' && c <= 'e';
                b.due("sign " + (int) c, Bound.taped("" + c).fault(1), letter ? NONE : 0);
                b.due("< and sign " + (int) c, Bound.taped("a<" + c).fault(1), letter ? NONE : 2);
            }
        }
        OathYesterday none = new OathYesterday();
        OathYesterday one = Check.made("t2;e");
        String[] texts = {"e", "e5", "e<d", "a=e", "!b"};
        for (int i = 0; i < texts.length; i++) {
            b.due("without a land: " + texts[i], Check.oath(none, texts[i]), i);
            b.due("with one deed: " + texts[i], Check.oath(one, texts[i]), i);
        }
    }

    private static void oathDepth() {
        Bound b = Bound.term(4, "At most six of ( ! within one another.");
        faults(b, 1, NONE, "!!!!!!a", "((((((a))))))", "!(!(!(a)))", "(!(!(!a)))", "!!!!!(a)", "(((((!a)))))", "!!!!!!#0",
                "!!!!!!a<b", "!!!!!!a5");
        faults(b, 1, 6, "!!!!!!!a", "(((((((a)))))))", "!(!(!(!a)))", "!!!!!!(a)", "((((((!a))))))", "!!!!!!!#0", "!!!!!!!",
                "(((((((");
        faults(b, 1, NONE, "!!!!!!a&!!!!!!b|!!!!!!c", "((((((a))))))&((((((b))))))", "((((((a|b)|c)|d)|e)|a)|b)",
                "(!!!!!a&!!!!!b)|((((((c))))))", "!!!!!(a&b|c)", "!a&!a&!a&!a&!a&!a&!a&!a");
        fault(b, 1, "!!!!!!a&!!!!!!!b", 14);
        fault(b, 1, "!!!!!!a|!!!!!!!b", 14);
        fault(b, 1, "((((((a))))))&(((((((b)))))))", 20);
        fault(b, 1, "(!!!!!a&!!!!!!b)", 13);
        fault(b, 1, "(!!!!!a|(((((b&!c)))))", 15);
        OathYesterday x = Check.made("t2;e", "!!!!!!a", "!!!!!a", "(((((!a)))))");
        b.due("six ! are none", x.holds(0, 2, 0), 1);
        b.due("five ! are one", x.holds(1, 2, 0), 0);
        b.due("five ( and one !", x.holds(2, 2, 0), 0);
    }

    private static String blanked(String text, String blank) {
        StringBuilder t = new StringBuilder(blank);
        for (char c : text.toCharArray()) {
            t.append(c).append(blank);
        }
        return t.toString();
    }

    private static void blanks() {
        Bound b = Bound.term(4, "Blanks (32) may stand between all signs of both.");
        String land = "t4;ep5f1l3;el0;e";
        String oath = "!(a0|b<c&#9)&d=e";
        faults(b, 0, NONE, land, blanked(land, " "), blanked(land, "   "), " " + land, land + " ");
        faults(b, 1, NONE, oath, blanked(oath, " "), blanked(oath, "    "), " " + oath, oath + " ");
        OathYesterday x = Check.made(blanked(land, "  "), "!(a0|b)", blanked("!(a0|b)", " "));
        b.due("doer", Check.deed(x, 0, 0), 5);
        b.due("last", Check.deed(x, 0, 2), 3);
        for (int i = 0; i < x.lives(false, NONE); i++) {
            int life = x.lives(false, i);
            b.due("the same oath in " + life, x.holds(0, 4, life), x.holds(1, 4, life));
        }
        fault(b, 1, " ".repeat(119) + "a", NONE);
        fault(b, 1, " ".repeat(120), 120);
        fault(b, 0, " ".repeat(120), 120);
        fault(b, 0, "  x", 2);
        fault(b, 1, "a  b", 3);
        fault(b, 1, "a 6", 2);
        fault(b, 0, "t  7", 3);
        for (char c : new char[] {9, 10, 13, 31, '_', 127, 160, 255}) {
            fault(b, 0, "t2" + c + ";e", 2);
            fault(b, 1, "a" + c + "&b", 1);
        }
    }

    private static void faultsThatAreSuch() {
        Bound b = Bound.term(4, "a digit out of bounds, a letter that was there in a DEED, the ; ahead of a sixth DEED, "
                + "a seventh of ( ! are such");
        fault(b, 0, "t1;x", 1);
        fault(b, 0, "t3;ep6;;", 5);
        fault(b, 0, "t3;ef3x", 5);
        fault(b, 0, "t3;ef2l1x", 7);
        fault(b, 1, "a6x", 1);
        fault(b, 0, "t3;ep1px", 6);
        fault(b, 0, "t3;ep1 p x", 7);
        fault(b, 0, "t3;e;e;e;e;ep1 ;x", 15);
        fault(b, 1, "!!!!!!(x", 6);
        fault(b, 1, "((((((!x", 6);
    }

    // ---- texts

    private static void textTaken() {
        Bound tape = Bound.of(5, "The TAPE (empty then) is the LAND");
        Bound deeds = Bound.of(5, "how many DEEDS");
        StringBuilder land = new StringBuilder("t2");
        OathYesterday x = Bound.rich();
        for (int n = 1; n <= 5; n++) {
            land.append(";e");
            deeds.due(land.toString(), Check.land(x, land.toString()), n);
            tape.due("the tape is empty", x.count(3), 0);
            tape.due("the land has them", x.count(0), n);
        }
        Check.tape(x, "t2;e" + " ".repeat(116));
        tape.due("a full tape", x.text(0), 1);
        tape.due("it is empty then", x.count(3), 0);
        Bound numbers = Bound.of(5, "an OATH: its number.");
        OathYesterday y = new OathYesterday();
        for (int n = 0; n < 8; n++) {
            numbers.due("oath " + n, Check.oath(y, "a"), n);
            numbers.due("the tape is empty", y.count(3), 0);
        }
    }

    private static void textRefused() {
        Bound fault = Bound.of(5, "NONE: a FAULT");
        for (String text : new String[] {"", " ", "t2", "t7;e", "t2;ep6", "t2;e;e;e;e;e;e"}) {
            fault.refused("land \"" + text + "\"", () -> richTaped(text), NONE, x -> x.text(0));
        }
        for (String text : new String[] {"", " ", "f", "a6", "a&", "!!!!!!!a", "t2;e"}) {
            fault.refused("oath \"" + text + "\"", () -> richTaped(text), NONE, x -> x.text(1));
        }
        Bound sort = Bound.of(5, "no such sort");
        sort.refusedBy("a land as", () -> richTaped("t2;e"), NONE, (x, v) -> x.text(v), -2, -1, 2, 3);
        sort.refusedBy("an oath as", () -> richTaped("a"), NONE, (x, v) -> x.text(v), -1, 2);
    }

    private static OathYesterday richTaped(String text) {
        OathYesterday x = Bound.rich();
        Check.tape(x, text);
        return x;
    }

    private static OathYesterday eight(String text) {
        OathYesterday x = Check.made(Bound.LAND, "a", "b", "!a", "!b", "a<b", "a=b", "a1", "#0");
        x.stake(7, 9);
        x.swear(0, 7, 3, 4);
        Check.tape(x, text);
        return x;
    }

    private static void textEight() {
        Bound b = Bound.of(5, "there are eight");
        b.refused("the ninth", () -> eight("a"), NONE, x -> x.text(1));
        b.refused("a faulty ninth", () -> eight("a|"), NONE, x -> x.text(1));
        b.due("the ninth's fault is told still", eight("a|").fault(1), 2);
        b.due("a land is taken still", eight("t2;e;e").text(0), 2);
        Bound most = Bound.term(5, "OATHS (8 at most)");
        OathYesterday x = eight("a");
        most.due("eight", x.count(2), 8);
        most.due("fault", x.fault(1), NONE);
        most.due("text", x.text(1), NONE);
        most.due("eight still", x.count(2), 8);
        most.due("the eighth is as it was", x.holds(7, 0, 1), 1);
        most.due("the tape stays", x.count(3), 1);
        OathYesterday y = new OathYesterday();
        most.due("none", y.count(2), 0);
    }

    private static void textOfAnotherLand() {
        Bound b = Bound.of(5, "(SWORN, FACTS, WEIGHTS, IMAGE of another one are gone; OATHS stay, and their GAINS)");
        OathYesterday x = Bound.rich();
        b.due("text", Check.land(x, "t2;e"), 1);
        b.due("oaths", x.count(2), 6);
        b.due("sworn", x.count(4), 0);
        b.due("sworn(0, 0)", x.sworn(0, 0), NONE);
        b.due("facts", x.count(5), 0);
        b.due("acts", x.count(6), 0);
        b.due("undo", x.undo(), NONE);
        b.due("back", x.back(), NONE);
        b.due("lives", x.lives(true, NONE), 3);
        b.due("weights", x.odds(0, 2, 0), 2);
        b.due("weights (below)", x.odds(0, 2, 1), 3);
        b.due("# of what was sworn", x.holds(5, 2, 0), 0);
        // a has a gain of 5, !a one of 2, and a0|b2 none: both swear a.
        b.due("gains", x.bait(2, 1), 0);
        x.swear(0, 3, 2, 1);
        b.due("!a is sworn: the gain of 2", x.bait(2, 1), 33);
        b.due("no image of the new land", x.back(), NONE);
    }

    private static void deed() {
        Bound parts = Bound.of(6, "Of a DEED: 0 its DOER, 1 FROM, 2 LAST.");
        OathYesterday x = Check.made("t6;ep5f0l5;e;e;e;ef5p2");
        int[][] want = {{5, 0, 5}, {0, 0, 5}, {0, 0, 5}, {0, 0, 5}, {2, 5, 5}};
        for (int deed = 0; deed < 5; deed++) {
            for (int what = 0; what < 3; what++) {
                parts.due("deed(" + deed + ", " + what + ")", Check.deed(x, deed, what), want[deed][what]);
            }
        }
        Bound no = Bound.of(6, "NoSuchElementException: no such ones.");
        no.refusedBy("of two, deed", Bound::rich, Bound.THROWN, (y, v) -> Check.deed(y, v, 0), -1, 2, 5);
        no.refusedBy("of five, deed", Bound::big, Bound.THROWN, (y, v) -> Check.deed(y, v, 2), -1, 5, 6);
        no.refusedBy("of one, deed", () -> Check.made("t2;e"), Bound.THROWN, (y, v) -> Check.deed(y, v, 1), -1, 1);
        no.refusedBy("what", Bound::rich, Bound.THROWN, (y, v) -> Check.deed(y, 0, v), -1, 3, 4);
        no.refusedBy("what of the last", Bound::big, Bound.THROWN, (y, v) -> Check.deed(y, 4, v), -1, 3);
        no.refusedBy("without a land, deed", Bound::noLand, Bound.THROWN, (y, v) -> Check.deed(y, v, 0), -1, 0, 1);
    }
}
