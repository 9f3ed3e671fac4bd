import java.math.BigInteger;

/** Boundaries of promises 26 to 30 and 38 to 45: odds, questions, rings, falls, and lives by number. */
final class BoundChances {
    private static final int NONE = OathYesterday.NONE;

    private BoundChances() {
    }

    static void run() {
        odds();
        oddsRefused();
        question();
        questionRefused();
        settled();
        rings();
        ringsRefused();
        fall();
        near();
        nearRefused();
        alibi();
        hands();
        mean();
        likeliest();
        drawn();
        busy();
        rows();
    }

    private static OathYesterday facts(String land, int[]... told) {
        OathYesterday x = Check.made(land);
        for (int[] t : told) {
            x.fact(t[0], t[1], t[2] == 1);
        }
        return x;
    }

    /** All weights of a deed are 0. */
    private static OathYesterday allZero() {
        OathYesterday x = Bound.six();
        for (int day : new int[] {0, 1, 2, 9}) {
            x.weigh(0, day, 0);
        }
        return x;
    }

    /** a is sworn for day 1, and its day 0 weighs nothing. */
    private static OathYesterday fitZero() {
        OathYesterday x = Bound.six();
        x.swear(0, 0, 1, 0);
        x.weigh(0, 0, 0);
        return x;
    }

    /** Each day weighs 9, never 8; and all lives fit but the least. */
    private static OathYesterday heavy() {
        OathYesterday x = Bound.big("!(a0&b0&c0&d0&e0)", "a0&b0&c0&d0&e0");
        for (int deed = 0; deed < 5; deed++) {
            for (int day = 0; day < 6; day++) {
                x.weigh(deed, day, 9);
            }
            x.weigh(deed, 9, 8);
        }
        return x;
    }

    // ---- odds, question, settled

    private static void odds() {
        Bound b = Bound.of(26, "ODDS: above (part 0), below (1).");
        int[][] want = {{0, 0, 0, 1}, {3, 0, 1, 1}, {0, 3, 3, 4}, {0, 1, 1, 4}, {5, 3, 0, 1}};
        for (int[] w : want) {
            b.due("above of " + w[0] + " on day " + w[1], Bound.six().odds(w[0], w[1], 0), w[2]);
            b.due("below of " + w[0] + " on day " + w[1], Bound.six().odds(w[0], w[1], 1), w[3]);
        }
        OathYesterday x = heavy();
        b.due("9 to the 5th", x.odds(1, 6, 0), 59049);
        b.due("62 to the 5th", x.odds(1, 6, 1), 916132832);
        Bound plain = Bound.term(26, "a fraction made plain (below 0: all together is 0)");
        plain.due("4 of 12", Check.made("t2;e;el0", "a0").odds(0, 2, 0), 1);
        plain.due("4 of 12 (below)", Check.made("t2;e;el0", "a0").odds(0, 2, 1), 3);
        OathYesterday one = allZero();
        one.weigh(0, 1, 9);
        plain.due("one day weighs alone: none of it", one.odds(0, 1, 0), 0);
        plain.due("one day weighs alone: none of it (below)", one.odds(0, 1, 1), 1);
        plain.due("all of it", one.odds(0, 2, 0), 1);
        plain.due("all of it (below)", one.odds(0, 2, 1), 1);
        for (int part = 0; part < 2; part++) {
            plain.due("below is 0", allZero().odds(0, 3, part), NONE);
        }
    }

    private static void oddsRefused() {
        Bound zero = Bound.of(26, "NONE: all is 0");
        Bound no = Bound.of(26, "no such ones");
        for (int p = 0; p < 2; p++) {
            int part = p;
            zero.refused("all weights of a", BoundChances::allZero, NONE, x -> x.odds(3, 0, part));
            zero.refused("all that fit", BoundChances::fitZero, NONE, x -> x.odds(1, 3, part));
            zero.refused("none fits", Bound::noFit, NONE, x -> x.odds(3, 0, part));
            zero.refused("no life is possible", Bound::noLife, NONE, x -> x.odds(3, 0, part));
            no.refused("no land", Bound::noLand, NONE, x -> x.odds(0, 0, part));
            no.refused("no oaths", Bound::noOaths, NONE, x -> x.odds(0, 0, part));
        }
        no.refusedBy("oath", Bound::rich, NONE, (x, v) -> x.odds(v, 3, 0), -1, 6, 7, 8, 9);
        no.refusedBy("day", Bound::rich, NONE, (x, v) -> x.odds(3, v, 1), -1, 4, 9);
        no.refusedBy("part", Bound::rich, NONE, (x, v) -> x.odds(3, 0, v), -1, 2, 3);
        no.due("the last oath and day", Bound.rich().odds(5, 3, 0), 1);
    }

    private static void question() {
        Bound parts = Bound.of(27, "QUESTION (what 0), that part (1).");
        OathYesterday last = facts(Bound.BIG, new int[][] {{0, 9, 1}, {1, 9, 1}, {2, 9, 1}, {3, 9, 1}, {4, 0, 0}, {4, 1, 0},
            {4, 2, 0}, {4, 3, 0}, {4, 4, 0}});
        parts.due("the last deed and day", last.question(0), 45);
        parts.due("one of two", last.question(1), 1);
        parts.due("the first deed and day", Check.made("t2;el0").question(0), 0);
        parts.due("one of two", Check.made("t2;el0").question(1), 1);
        parts.due("all lives of five deeds", Bound.big().question(0), 2);
        parts.due("4 of 7 days", Bound.big().question(1), 4 * 2401);
        Bound least = Bound.term(27, "that by which the greater part of LIVES that FIT (by number of them) is least, both "
                + "parts above 0 (of several the lowest DEED, then day): 10 times the DEED and the day; that part");
        least.due("of two deeds the lowest", Check.made("t2;el0;el0").question(0), 0);
        least.due("of four days the lowest", Check.made("t6;ef2l2").question(0), 2);
        least.due("the lowest deed ahead of the lowest day", Check.made("t6;ef4l4;el0").question(0), 4);
        least.due("by number, not by weights", weighed().question(0), 1);
        OathYesterday sure = Check.made("t2;e", "a");
        sure.swear(0, 0, 2, 0);
        least.due("by day 1 it is sure: one part is 0", sure.question(0), 0);
        least.due("one of two", sure.question(1), 1);
        OathYesterday three = Check.made("t3;e", "a");
        least.due("2 of 4", three.question(0), 1);
        least.due("2 of 4: that part", three.question(1), 2);
        three.swear(0, 0, 3, 0);
        least.due("2 of 3, of 1 and 2 the lower day", three.question(0), 0);
        least.due("2 of 3: the greater part", three.question(1), 2);
    }

    private static OathYesterday weighed() {
        OathYesterday x = Bound.six();
        x.weigh(0, 0, 9);
        x.weigh(0, 1, 0);
        return x;
    }

    private static void questionRefused() {
        Bound none = Bound.of(27, "NONE: none");
        Bound land = Bound.of(27, "no LAND");
        for (int part = 0; part < 2; part++) {
            int what = part;
            none.refused("one life", () -> facts("t2;e", new int[][] {{0, 9, 1}}), NONE, x -> x.question(what));
            none.refused("none fits", Bound::noFit, NONE, x -> x.question(what));
            none.refused("no life is possible", Bound::noLife, NONE, x -> x.question(what));
            land.refused("question", Bound::noLand, NONE, x -> x.question(what));
        }
        Bound.of(27, "no such what").refusedBy("what", Bound::rich, NONE, (x, v) -> x.question(v), -1, 2, 3);
    }

    private static void settled() {
        Bound b = Bound.of(28, "SETTLED: 1 in all, 0 in none, 2 in some.");
        OathYesterday x = Bound.big("!(a|b|c|d|e)", "a|b|c|d|e", "a|!a", "a&!a", "a&b&c&d&e");
        int[][] want = {{0, 6, 2}, {1, 6, 2}, {2, 6, 1}, {3, 6, 0}, {4, 6, 2}, {0, 0, 1}, {1, 0, 0}, {4, 1, 2}};
        for (int[] w : want) {
            b.due("oath " + w[0] + " on day " + w[1], x.settled(w[0], w[1]), w[2]);
        }
        x.fact(4, 3, true);
        b.due("the last life is out", x.settled(1, 6), 1);
        b.due("the last life is out", x.settled(0, 6), 0);
        Bound none = Bound.of(28, "NONE: no LIFE FITS");
        none.refused("sworn ones", Bound::noFit, NONE, y -> y.settled(3, 0));
        none.refused("facts", Bound::noLife, NONE, y -> y.settled(3, 0));
        none.refused("what never holds", Bound::noFit, NONE, y -> y.settled(0, 0));
        Bound no = Bound.of(28, "no such ones");
        no.refusedBy("oath", Bound::rich, NONE, (y, v) -> y.settled(v, 3), -1, 6, 7, 8, 9);
        no.refusedBy("day", Bound::rich, NONE, (y, v) -> y.settled(3, v), -1, 4, 9);
        no.refused("no land", Bound::noLand, NONE, y -> y.settled(0, 0));
        no.refused("no oaths", Bound::noOaths, NONE, y -> y.settled(0, 0));
    }

    // ---- rings, fall

    /** Ten sworn ones: eight hold themselves up, the ninth by the first, the tenth by the second. */
    private static OathYesterday selves() {
        OathYesterday x = Check.made("t2;e", "#0", "#1", "#2", "#3", "#4", "#5", "#6", "#7");
        for (int i = 0; i < 10; i++) {
            x.swear(0, i % 8, 0, 0);
        }
        return x;
    }

    private static OathYesterday denied() {
        OathYesterday x = Check.made("t2;e", "!#0");
        x.swear(0, 0, 0, 0);
        return x;
    }

    private static void rings() {
        Bound b = Bound.of(29, "RINGS: how many (i NONE), the i-th.");
        b.due("nothing is sworn: the empty one", Bound.six().rings(99, NONE), 1);
        b.due("it", Bound.six().rings(99, 0), 0);
        b.due("what denies itself", denied().rings(9, NONE), 0);
        b.due("of eight", selves().rings(0, NONE), 256);
        b.due("all that hold", Bound.tenSworn().rings(99, 0), 1023);
        b.due("no other", Bound.tenSworn().rings(99, NONE), 1);
        Bound sets = Bound.term(29, "sets of what is SWORN (bits) such that just those in it HOLD in that LIFE, # k meaning "
                + "that k is in it: how many, the i-th (rising)");
        int[][] want = {{0, 0}, {1, 4}, {63, 252}, {64, 257}, {127, 509}, {128, 514}, {255, 1023}, {256, NONE}};
        for (int[] w : want) {
            sets.due("ring " + w[0], selves().rings(0, w[0]), w[1]);
        }
        OathYesterday x = Check.made("t2;e", "#1", "#0&a", "a", "#9", "!#9");
        x.swear(0, 0, 0, 0);
        x.swear(0, 1, 2, 0);
        x.swear(0, 2, 2, 0);
        sets.due("a is done: two", x.rings(0, NONE), 2);
        sets.due("a alone", x.rings(0, 0), 4);
        sets.due("all", x.rings(0, 1), 7);
        sets.due("a is not done: one", x.rings(9, NONE), 1);
        sets.due("the empty one", x.rings(9, 0), 0);
        x.swear(0, 3, 0, 0);
        x.swear(0, 4, 0, 0);
        sets.due("# of what is not sworn is in none", x.rings(9, NONE), 1);
        sets.due("! of it holds", x.rings(9, 0), 16);
        OathYesterday big = swornBy(Bound.BIG, new int[] {0, 1, 2}, "a", "!a&e0", "#0|#1");
        sets.due("in the first life", big.rings(0, 0), 5);
        sets.due("in the last life", big.rings(99999, 0), 0);
        sets.due("in a life far behind", big.rings(99990, 0), 6);
        sets.due("one behind it", big.rings(99991, 0), 0);
        OathYesterday early = Check.made("t2;e", "a");
        early.swear(0, 0, 1, 0);
        sets.due("on its day a is seen", early.rings(0, 0), 1);
        sets.due("on its day a is not seen", early.rings(1, 0), 0);
    }

    private static void ringsRefused() {
        Bound b = Bound.of(29, "NONE: no such ones.");
        b.refusedBy("life", Bound::rich, NONE, (x, v) -> x.rings(v, NONE), -1, 0, 3, 8, 10, 13, 31, 90, 100, 101);
        b.refusedBy("life, the first ring", Bound::rich, NONE, (x, v) -> x.rings(v, 0), -1, 0, 3, 100);
        b.refusedBy("ring of one", Bound::rich, NONE, (x, v) -> x.rings(1, v), -2, 1, 2, 3, 4);
        b.refusedBy("ring of 256", BoundChances::selves, NONE, (x, v) -> x.rings(0, v), -2, 256, 257, 1023);
        b.refusedBy("ring of none", BoundChances::denied, NONE, (x, v) -> x.rings(0, v), -2, 0, 1);
        b.refusedBy("no land", Bound::noLand, NONE, (x, v) -> x.rings(0, v), NONE, 0);
        b.due("the least life", Bound.rich().rings(1, NONE), 1);
        b.due("the greatest life", Bound.rich().rings(99, NONE), 1);
        b.due("where no life is possible", Bound.noLife().rings(99, 0), 1);
    }

    private static OathYesterday swornBy(String land, int[] which, String... oaths) {
        OathYesterday x = Check.made(land, oaths);
        for (int oath : which) {
            x.swear(0, oath, x.count(1), 1);
        }
        return x;
    }

    private static void fall(Bound b, String what, OathYesterday x, int size, int set) {
        b.due(what + ": how many", x.fall(0), size);
        b.due(what + ": which", x.fall(1), set);
    }

    private static void fall() {
        Bound parts = Bound.of(30, "FALL: how many (0), which (1).");
        fall(parts, "nothing is sworn", Bound.six(), 0, 0);
        fall(parts, "ten hold", Bound.tenSworn(), 0, 0);
        fall(parts, "ten can't", swornBy("t2;e", new int[10], "a&!a"), 10, 1023);
        fall(parts, "the tenth can't", swornBy("t2;e", new int[] {1, 1, 1, 1, 1, 1, 1, 1, 1, 0}, "a&!a", "a"), 1, 512);
        fall(parts, "all that deny themselves", swornBy("t2;e", new int[] {0, 1}, "!#0", "!#1"), 2, 3);
        Bound least = Bound.term(30, "the fewest SWORN ones without which (taken away, # of them is not) some POSSIBLE LIFE has "
                + "all others HOLD (of several the least bits): how many, which");
        fall(least, "of two alike the first", swornBy("t2;e", new int[] {0, 1}, "a", "!a"), 1, 1);
        fall(least, "fewer ahead of less bits", swornBy("t2;e", new int[] {0, 0, 1}, "a", "!a"), 1, 4);
        fall(least, "of three pairs the least", swornBy("t2;el0;e", new int[] {0, 1, 2, 3}, "a", "!a", "b", "!b"), 2, 5);
        fall(least, "# of what is taken away is not", swornBy("t2;e", new int[] {0, 1}, "#1", "a&!a"), 2, 3);
        fall(least, "! of it holds", swornBy("t2;e", new int[] {0, 0, 1}, "!#2", "a"), 1, 4);
        fall(least, "# of what is never sworn", swornBy("t2;e", new int[] {0}, "#9"), 1, 1);
        OathYesterday x = swornBy("t2;e", new int[] {0, 1}, "a", "!a");
        x.fact(0, 9, false);
        fall(least, "by a fact the second", x, 1, 2);
        OathYesterday first = swornBy("t2;e", new int[] {0, 1}, "!a", "a");
        first.fact(0, 0, true);
        fall(least, "in the first life alone", first, 1, 1);
        Bound none = Bound.of(30, "NONE: no LIFE is POSSIBLE");
        none.refusedBy("what", Bound::noLife, NONE, (y, v) -> y.fall(v), 0, 1);
        none.refusedBy("nothing is sworn, what", () -> facts("t2;e", new int[][] {{0, 0, 1}, {0, 1, 1}}), NONE,
                (y, v) -> y.fall(v), 0, 1);
        Bound.of(30, "no LAND").refusedBy("what", Bound::noLand, NONE, (y, v) -> y.fall(v), 0, 1);
        Bound.of(30, "no such what").refusedBy("what", Bound::rich, NONE, (y, v) -> y.fall(v), -1, 2, 3);
        Bound.of(30, "no such what").refusedBy("nothing is sworn, what", Bound::six, NONE, (y, v) -> y.fall(v), -1, 2);
    }

    // ---- near, alibi, hands

    private static void near() {
        Bound parts = Bound.of(38, "NEAR: how many (0), the LIFE (1).");
        OathYesterday x = Bound.big("a&b&c&d&e");
        parts.due("itself", x.near(99999, 0), 0);
        parts.due("itself", x.near(99999, 1), 99999);
        parts.due("itself", x.near(0, 1), 0);
        x.swear(0, 0, 6, 0);
        parts.due("all otherwise", x.near(99999, 0), 5);
        parts.due("the least", x.near(99999, 1), 0);
        parts.due("none otherwise", x.near(55555, 0), 0);
        parts.due("it", x.near(55555, 1), 55555);
        parts.due("one otherwise", x.near(12349, 0), 1);
        parts.due("the least of them", x.near(12349, 1), 12340);
        Bound any = Bound.term(38, "NEAR of a LIFE (any): that which FITS and in which the fewest DEEDS are otherwise (of "
                + "several the least number): how many, it.");
        // 2, 12 and 22 fit; facts say that b was not done on day 1, and that a is done.
        int[][] want = {{91, 2, 2}, {99, 2, 2}, {92, 1, 2}, {11, 1, 12}, {21, 1, 22}, {29, 1, 22}, {1, 1, 2}, {22, 0, 22}};
        for (int[] w : want) {
            any.due("how many from " + w[0], Bound.rich().near(w[0], 0), w[1]);
            any.due("it from " + w[0], Bound.rich().near(w[0], 1), w[2]);
        }
    }

    private static void nearRefused() {
        Bound none = Bound.of(38, "NONE: none FITS");
        none.refusedBy("sworn ones, what", Bound::noFit, NONE, (x, v) -> x.near(99, v), 0, 1);
        none.refusedBy("facts, what", Bound::noLife, NONE, (x, v) -> x.near(99, v), 0, 1);
        Bound no = Bound.of(38, "no such ones");
        no.refusedBy("life", Bound::rich, NONE, (x, v) -> x.near(v, 0), -1, 0, 3, 8, 10, 13, 31, 90, 100, 101);
        no.refusedBy("life of five", Bound::big, NONE, (x, v) -> x.near(v, 1), -1, 6, 60000, 100000, 199999);
        no.refusedBy("what", Bound::rich, NONE, (x, v) -> x.near(22, v), -1, 2, 3);
        no.refusedBy("no land, what", Bound::noLand, NONE, (x, v) -> x.near(0, v), 0, 1);
    }

    private static void alibi() {
        Bound b = Bound.of(39, "ALIBI (1, 0).");
        OathYesterday x = Check.made("t6;ep5f5;ep0l0;ep5l1f1");
        int[][] want = {{5, 5, 0}, {5, 4, 1}, {5, 1, 0}, {5, 0, 1}, {0, 0, 0}, {0, 1, 1}, {0, 5, 1}, {1, 0, 1}, {4, 5, 1}};
        for (int[] w : want) {
            b.due("alibi(" + w[0] + ", " + w[1] + ")", x.alibi(w[0], w[1]), w[2]);
        }
        b.due("without p it is 0", Check.made("t2;e").alibi(0, 1), 0);
        Bound any = Bound.term(39, "whether it does no DEED on that day in any LIFE that FITS");
        any.due("none fits", Bound.noFit().alibi(0, 0), 1);
        any.due("no life is possible", Bound.noLife().alibi(0, 0), 1);
        x.fact(0, 5, false);
        any.due("by a fact", x.alibi(5, 5), 1);
        any.due("the other deed still", x.alibi(5, 1), 0);
        x.fact(2, 9, true);
        any.due("no deed is left", x.alibi(5, 1), 1);
        Bound no = Bound.of(39, "NONE: no such ones (day 0 .. DAYS less 1).");
        no.refusedBy("day", Bound::rich, NONE, (y, v) -> y.alibi(0, v), -1, 3, 4, 9);
        no.refusedBy("day of six", Bound::big, NONE, (y, v) -> y.alibi(0, v), -1, 6, 7, 9);
        no.refusedBy("person", Bound::rich, NONE, (y, v) -> y.alibi(v, 0), -1, 6, 7);
        no.refusedBy("no land, day", Bound::noLand, NONE, (y, v) -> y.alibi(0, v), 0, 1);
    }

    private static void hands() {
        Bound b = Bound.term(40, "HANDS: PERSONS (bits) who do a DEED in all LIVES that FIT (none FIT: all).");
        b.due("none fits", Bound.noFit().hands(), 63);
        b.due("no life is possible", Bound.noLife().hands(), 63);
        b.due("all that are", swornBy("t2;ep1;ep2;ep3;ep4;ep5", new int[] {0}, "a&b&c&d&e").hands(), 62);
        b.due("the first", swornBy("t2;e;ep5", new int[] {0}, "a").hands(), 1);
        b.due("the last", swornBy("t2;e;ep5", new int[] {0}, "b").hands(), 32);
        b.due("nobody", Bound.big().hands(), 0);
        b.due("in all but the last life", swornBy("t2;ep3;ep3", new int[] {0}, "a|b|!a").hands(), 0);
        b.due("one of two deeds", swornBy("t2;ep3;ep3", new int[] {0}, "a|b").hands(), 8);
        b.due("on the last day", swornBy("t6;ep4f5", new int[] {0}, "a").hands(), 16);
        Bound.of(40, "HANDS, as bits.").due("of a deed by 0 that is done", Bound.rich().hands(), 3);
        Bound.of(40, "NONE: no LAND.").refused("hands", Bound::noLand, NONE, OathYesterday::hands);
    }

    // ---- mean, likeliest, drawn

    private static void mean() {
        Bound b = Bound.term(41, "MEAN: DEEDS done (on whatever day), over LIVES that FIT by WEIGHTS: a fraction made plain.");
        OathYesterday last = Check.made("t6;ef5");
        b.due("the last day counts", last.mean(0), 1);
        b.due("the last day counts (below)", last.mean(1), 2);
        OathYesterday all = swornBy(Bound.BIG, new int[] {0}, "a&b&c&d&e");
        b.due("five", all.mean(0), 5);
        b.due("five (below)", all.mean(1), 1);
        OathYesterday none = facts("t2;e", new int[][] {{0, 9, 1}});
        b.due("nothing is done", none.mean(0), 0);
        b.due("nothing is done (below)", none.mean(1), 1);
        OathYesterday x = heavy();
        x.swear(0, 0, 6, 0);
        // 5 * 54 * 62^4 - 5 * 9^5, more than an int holds; 62^5 - 9^5.
        b.due("the most", x.mean(0), 3989315475L);
        b.due("the most (below)", x.mean(1), 916073783L);
        Bound zero = Bound.of(41, "NONE: all is 0");
        Bound parts = Bound.of(41, "MEAN: above (part 0), below (1).");
        parts.due("above", Bound.six().mean(0), 17);
        parts.due("below", Bound.six().mean(1), 12);
        zero.refusedBy("all weights of a, part", BoundChances::allZero, NONE, (y, v) -> y.mean(v), 0, 1);
        zero.refusedBy("all that fit, part", BoundChances::fitZero, NONE, (y, v) -> y.mean(v), 0, 1);
        zero.refusedBy("none fits, part", Bound::noFit, NONE, (y, v) -> y.mean(v), 0, 1);
        zero.refusedBy("no life is possible, part", Bound::noLife, NONE, (y, v) -> y.mean(v), 0, 1);
        Bound.of(41, "no LAND").refusedBy("part", Bound::noLand, NONE, (y, v) -> y.mean(v), 0, 1);
        Bound.of(41, "no such part").refusedBy("part", Bound::rich, NONE, (y, v) -> y.mean(v), -1, 2, 3);
    }

    private static void likeliest() {
        Bound b = Bound.term(42, "the LIFE that FITS with the greatest product of WEIGHTS (of several the least number)");
        b.due("all alike: the least", Bound.big().likeliest(), 0);
        b.due("all alike: the least", Bound.six().likeliest(), 1);
        b.due("all are 0: the least", allZero().likeliest(), 1);
        b.due("all that fit are 0: the least", fitZero().likeliest(), 1);
        OathYesterday x = heavy();
        b.due("all days alike", x.likeliest(), 0);
        for (int deed = 0; deed < 5; deed++) {
            x.weigh(deed, 9, 9);
        }
        b.due("never, too", x.likeliest(), 0);
        for (int deed = 0; deed < 5; deed++) {
            for (int day = 0; day < 6; day++) {
                x.weigh(deed, day, 8);
            }
        }
        b.due("never is the greatest", x.likeliest(), 99999);
        x.swear(0, 1, 6, 0);
        b.due("of those that fit", x.likeliest(), 0);
        OathYesterday product = Check.made("t2;e;e", "a=b");
        int[][] weights = {{0, 0, 9}, {1, 0, 2}, {0, 1, 5}, {1, 1, 5}};
        for (int[] w : weights) {
            product.weigh(w[0], w[1], w[2]);
        }
        product.swear(0, 0, 2, 0);
        b.due("5 times 5 is more than 9 times 2", product.likeliest(), 11);
        OathYesterday y = Check.made("t2;e");
        y.weigh(0, 0, 0);
        b.due("1 is more than 0", y.likeliest(), 1);
        Bound none = Bound.of(42, "NONE: none FITS");
        none.refused("sworn ones", Bound::noFit, NONE, OathYesterday::likeliest);
        none.refused("facts", Bound::noLife, NONE, OathYesterday::likeliest);
        Bound.of(42, "no LAND").refused("likeliest", Bound::noLand, NONE, OathYesterday::likeliest);
    }

    /** The number of the life that a seed draws, by whole numbers that never go round by themselves. */
    private static int drawnOf(long seed, int lives) {
        BigInteger all = BigInteger.ONE.shiftLeft(64);
        BigInteger x = BigInteger.valueOf(seed).multiply(new BigInteger("6364136223846793005"))
                .add(new BigInteger("1442695040888963407")).mod(all);
        return x.shiftRight(33).mod(BigInteger.valueOf(lives)).intValue();
    }

    private static void drawn() {
        Bound b = Bound.term(43, "the one at x shifted right by 33 modulo their number, x being the seed times "
                + "6364136223846793005 and 1442695040888963407 (64 bits, going round; the shift without sign).");
        long[] seeds = {0, 1, -1, 2, 3, 5, 7, 12, 99, 1000003, Integer.MAX_VALUE, Integer.MIN_VALUE, 1L << 32, 1L << 33,
            1L << 62, Long.MAX_VALUE, Long.MIN_VALUE, Long.MAX_VALUE - 1, Long.MIN_VALUE + 1, 6364136223846793005L,
            // By these x is 0, the greatest of 64 bits, 1 shifted left by 33, and 1 less.
            -7379792620528906219L, -2810872687533676688L, -84997745826115563L, 4483922187169113968L};
        OathYesterday x = Bound.six();
        OathYesterday rich = Bound.rich();
        OathYesterday big = Bound.big();
        OathYesterday one = facts("t2;e", new int[][] {{0, 9, 1}});
        for (long seed : seeds) {
            b.due("of 12 by " + seed, x.drawn(seed), x.lives(true, drawnOf(seed, 12)));
            b.due("of 3 by " + seed, rich.drawn(seed), rich.lives(true, drawnOf(seed, 3)));
            b.due("of 16807 by " + seed, big.drawn(seed), big.lives(true, drawnOf(seed, 16807)));
            b.due("of one by " + seed, one.drawn(seed), 9);
        }
        Bound none = Bound.of(43, "NONE: none FITS");
        Bound land = Bound.of(43, "no LAND");
        for (long seed : new long[] {0, -1, Long.MIN_VALUE, Long.MAX_VALUE}) {
            none.refused("sworn ones", Bound::noFit, NONE, y -> y.drawn(seed));
            none.refused("facts", Bound::noLife, NONE, y -> y.drawn(seed));
            land.refused("drawn", Bound::noLand, NONE, y -> y.drawn(seed));
        }
    }

    // ---- busy, rows

    private static void busy() {
        Bound parts = Bound.of(44, "BUSY: how many (0), the day (1; NONE: none is done).");
        OathYesterday all = facts(Bound.BIG, new int[][] {{0, 5, 1}, {1, 5, 1}, {2, 5, 1}, {3, 5, 1}, {4, 5, 1}});
        parts.due("five", all.busy(0), 5);
        parts.due("on the last day", all.busy(1), 5);
        parts.due("five of all lives", Bound.big().busy(0), 5);
        parts.due("on the first day", Bound.big().busy(1), 0);
        OathYesterday none = facts("t2;e", new int[][] {{0, 9, 1}});
        parts.due("none is done", none.busy(0), 0);
        parts.due("no day", none.busy(1), NONE);
        Bound most = Bound.term(44, "the most DEEDS on one day in a LIFE that FITS; the day (of several the lowest)");
        OathYesterday x = Check.made("t6;ef1l1;ef4l4;ef4l4;ef2l2;ef2l2");
        most.due("two", x.busy(0), 2);
        most.due("of days 2 and 4", x.busy(1), 2);
        x.fact(3, 9, true);
        most.due("on day 4", x.busy(1), 4);
        x.fact(1, 9, true);
        most.due("one", x.busy(0), 1);
        most.due("of days 1, 2 and 4", x.busy(1), 1);
        Bound fits = Bound.of(44, "NONE: none FITS");
        fits.refusedBy("sworn ones, what", Bound::noFit, NONE, (y, v) -> y.busy(v), 0, 1);
        fits.refusedBy("facts, what", Bound::noLife, NONE, (y, v) -> y.busy(v), 0, 1);
        Bound.of(44, "no LAND").refusedBy("what", Bound::noLand, NONE, (y, v) -> y.busy(v), 0, 1);
        Bound.of(44, "no such what").refusedBy("what", Bound::rich, NONE, (y, v) -> y.busy(v), -1, 2, 3);
        Bound.of(44, "no such what").refusedBy("none is done, what",
                () -> facts("t2;e", new int[][] {{0, 9, 1}}), NONE, (y, v) -> y.busy(v), -1, 2);
    }

    private static void rows() {
        Bound parts = Bound.of(45, "ROWS: ahead (0), behind (1), on one day (2).");
        int[] want = {5145, 5145, 2058};
        for (int what = 0; what < 3; what++) {
            parts.due("a and e, " + what, Bound.big().rows(0, 4, what), want[what]);
            parts.due("e and a, " + what, Bound.big().rows(4, 0, what), want[what]);
            parts.due("none fits, " + what, Bound.noFit().rows(0, 1, what), 0);
            parts.due("no life is possible, " + what, Bound.noLife().rows(0, 1, what), 0);
        }
        Bound both = Bound.term(45, "in how many LIVES that FIT a DEED is done ahead of another one (both done), behind it, on "
                + "one day");
        OathYesterday x = Check.made("t6;ef5;el0");
        both.due("5 and 0: ahead", x.rows(0, 1, 0), 0);
        both.due("5 and 0: behind", x.rows(0, 1, 1), 1);
        both.due("never is not on one day", x.rows(0, 1, 2), 0);
        both.due("0 and 5: ahead", x.rows(1, 0, 0), 1);
        OathYesterday last = Check.made("t6;ef5;ef5");
        both.due("both on the last day", last.rows(0, 1, 2), 1);
        both.due("never is not ahead", last.rows(0, 1, 0), 0);
        both.due("never is not behind", last.rows(0, 1, 1), 0);
        both.due("of those that fit: ahead", Bound.rich().rows(0, 1, 0), 2);
        both.due("of those that fit: on one day", Bound.rich().rows(0, 1, 2), 1);
        Bound no = Bound.of(45, "NONE: no such ones");
        no.refusedBy("one", Bound::rich, NONE, (y, v) -> y.rows(v, 0, 0), -1, 2, 5);
        no.refusedBy("other", Bound::rich, NONE, (y, v) -> y.rows(0, v, 1), -1, 2, 5);
        no.refusedBy("of five, one", Bound::big, NONE, (y, v) -> y.rows(v, 0, 2), -1, 5);
        no.refusedBy("of five, other", Bound::big, NONE, (y, v) -> y.rows(0, v, 2), -1, 5);
        no.refusedBy("what", Bound::rich, NONE, (y, v) -> y.rows(0, 1, v), -1, 3, 4);
        no.refusedBy("no land, what", Bound::noLand, NONE, (y, v) -> y.rows(0, 1, v), 0, 1, 2);
        Bound alike = Bound.of(45, "alike");
        for (int d = 0; d < 2; d++) {
            int deed = d;
            alike.refusedBy("deed " + d + ", what", Bound::rich, NONE, (y, v) -> y.rows(deed, deed, v), 0, 1, 2);
        }
    }
}
