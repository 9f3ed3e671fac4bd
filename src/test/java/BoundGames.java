/** Boundaries of promises 32 to 37: duels, baits, plans, and what goes with what. */
final class BoundGames {
    private static final int NONE = OathYesterday.NONE;

    private BoundGames() {
    }

    static void run() {
        duelRests();
        duelPays();
        duelRefused();
        bait();
        baitRefused();
        plan();
        planRefused();
        implies();
        same();
        days();
    }

    private static OathYesterday eight() {
        return Check.made("t2;e", "a", "a", "a", "a", "a", "a", "a", "a");
    }

    private static OathYesterday two(int gain, int other) {
        OathYesterday x = Check.made("t2;e", "a", "!a");
        x.stake(0, gain);
        x.stake(1, other);
        return x;
    }

    // ---- duel, bait

    private static void rests(Bound b, String what, OathYesterday x, int price, int... want) {
        b.due(what + ": how many", x.duel(2, price, NONE), want.length);
        for (int i = 0; i < want.length; i++) {
            b.due(what + ": the rest " + i, x.duel(2, price, i), want[i]);
        }
        b.due(what + ": no more", x.duel(2, price, want.length), NONE);
    }

    private static void duelRests() {
        Bound b = Bound.of(32, "RESTS of a DUEL: how many (i NONE), the i-th.");
        rests(b, "no oaths", Check.made("t2;e"), 0, 99);
        int[] all = new int[81];
        for (int i = 0; i < 81; i++) {
            all[i] = 10 * (i / 9 == 8 ? 9 : i / 9) + (i % 9 == 8 ? 9 : i % 9);
        }
        rests(b, "eight oaths that bring nothing", eight(), 0, all);
        rests(b, "none fits, at no price", sworn("a&!a", 0), 0, 0, 9, 90, 99);
        Bound none = Bound.term(32, "each one of the OATHS or none (9)");
        rests(none, "none fits, at a price", sworn("a&!a", 5), 1, 99);
        rests(none, "what can't be, at a price", two(9, 9), 99, 0, 11);
        none.due("on day 0 the one is none", two(9, 0).duel(0, 1, 0), 11);
        none.due("on day 0 neither has more", two(9, 0).duel(0, 1, NONE), 4);
        Bound rising = Bound.term(32, "pairs (10 times the first one's and the other's) by which neither has more by another "
                + "choice alone: how many, the i-th (rising)");
        rests(rising, "all bring nothing, at 1", two(0, 0), 1, 0, 9, 11, 19, 90, 91, 99);
        rests(rising, "one brings 1, the price is 0", two(1, 0), 0, 0, 11);
        rests(rising, "both bring 1", two(1, 1), 0, 0, 11);
        rests(rising, "the other brings 1, the price is 0", two(0, 1), 0, 0, 11);
        rests(rising, "the other brings 1, the price is 1", two(0, 1), 1, 0, 11);
        rests(rising, "both swear what brings less: neither alone has more", two(99, 98), 1, 0, 11);
    }

    private static OathYesterday sworn(String oath, int gain) {
        OathYesterday x = Check.made("t2;e", oath);
        x.stake(0, gain);
        x.swear(0, 0, 2, 0);
        return x;
    }

    private static void duelPays() {
        Bound b = Bound.term(32, "each has the GAIN of its OATH (none: 0), else each that swears pays PRICE");
        OathYesterday x = Check.made("t2;e", "a", "b");
        x.stake(1, 99);
        rests(b, "what can't be brings nothing, at 1", x, 1, 0, 9, 90, 99);
        rests(b, "what can't be costs nothing, at 0", x, 0, 0, 1, 9, 10, 11, 19, 90, 91, 99);
        Bound price = Bound.term(32, "with a PRICE (0 .. 99)");
        price.due("0", x.duel(2, 0, NONE), 9);
        price.due("1", x.duel(2, 1, NONE), 4);
        price.due("98", x.duel(2, 98, NONE), 4);
        price.due("99", x.duel(2, 99, NONE), 4);
        price.refusedBy("of a duel", Bound::rich, NONE, (y, v) -> y.duel(3, v, NONE), -1, 100);
        price.refusedBy("of the first rest", Bound::rich, NONE, (y, v) -> y.duel(3, v, 0), -1, 100);
        Bound swear = Bound.term(32, "if some LIFE that FITS has all that they swear HOLD");
        OathYesterday y = Check.made("t6;e;e;e;e;e", "a|b|c|d|e", "!(a|b|c|d|e)", "e5&!e4");
        for (int oath = 0; oath < 3; oath++) {
            y.stake(oath, 10);
        }
        // Each may alone; the second with neither of the others, for it holds in the last life alone.
        int[] want = {0, 2, 11, 20, 22};
        for (int i = 0; i < want.length; i++) {
            swear.due("rest " + i, y.duel(6, 5, i), want[i]);
        }
        swear.due("how many", y.duel(6, 5, NONE), want.length);
    }

    private static void duelRefused() {
        Bound no = Bound.of(32, "NONE: no such ones");
        no.refusedBy("day", Bound::rich, NONE, (x, v) -> x.duel(v, 0, NONE), -1, 4, 9);
        no.refusedBy("day of two", BoundGames::eight, NONE, (x, v) -> x.duel(v, 0, 0), -1, 3);
        no.refusedBy("rest of 81", BoundGames::eight, NONE, (x, v) -> x.duel(2, 0, v), -2, 81, 82, 99);
        no.refusedBy("rest of one", Bound::noOaths, NONE, (x, v) -> x.duel(3, 0, v), -2, 1, 2);
        no.due("the first and the last day", eight().duel(0, 0, NONE) + eight().duel(2, 0, NONE), 162);
        Bound land = Bound.of(32, "no LAND");
        land.refusedBy("rest", Bound::noLand, NONE, (x, v) -> x.duel(0, 0, v), NONE, 0);
    }

    private static void bait() {
        Bound several = Bound.term(33, "(of several for the other the lowest, none last; of several for the first likewise)");
        several.due("all alike", eight().bait(2, 0), 0);
        several.due("none is as good, and last", two(0, 0).bait(2, 5), 0);
        several.due("the second alone is as good", two(0, 0).bait(0, 5), 11);
        several.due("none fits, at no price", sworn("a&!a", 9).bait(2, 0), 0);
        several.due("none fits, at a price", sworn("a&!a", 9).bait(2, 1), 99);
        several.due("no oaths", Bound.noOaths().bait(3, 0), 99);
        OathYesterday alike = Check.made("t2;e;e", "a&!a", "a", "b", "!a&!b");
        alike.stake(1, 6);
        alike.stake(2, 6);
        several.due("of three with 6 the lowest", alike.bait(2, 5), 11);
        Bound most = Bound.term(33, "of the first one's choices that by which it has most, the other one doing what is best "
                + "for it then");
        OathYesterday last = Check.made("t2;e", "a", "a", "a", "a", "a", "a", "a", "!a");
        last.stake(7, 1);
        most.due("the last oath", last.bait(2, 99), 77);
        most.due("98 and 99", two(98, 99).bait(2, 99), 11);
        most.due("99 and 98", two(99, 98).bait(2, 99), 0);
        OathYesterday first = Check.made("t2;e;e", "a0", "!a");
        first.stake(0, 99);
        first.fact(0, 0, false);
        most.due("what can't be, at a price", first.bait(2, 1), 11);
        Bound.of(33, "BAIT.").due("none of both", Bound.noOaths().bait(0, 99), 99);
    }

    private static void baitRefused() {
        Bound no = Bound.of(33, "NONE: no such ones");
        no.refusedBy("day", Bound::rich, NONE, (x, v) -> x.bait(v, 0), -1, 4, 9);
        no.refusedBy("day of two", BoundGames::eight, NONE, (x, v) -> x.bait(v, 0), -1, 3);
        no.refusedBy("price", Bound::rich, NONE, (x, v) -> x.bait(3, v), -1, 100);
        no.due("price 0 and 99", two(5, 7).bait(2, 0) + two(5, 7).bait(2, 99), 22);
        no.due("the first and the last day", two(5, 7).bait(0, 1) + two(5, 7).bait(2, 1), 22);
        Bound.of(33, "no LAND").refusedBy("day", Bound::noLand, NONE, (x, v) -> x.bait(v, 0), 0, 1);
    }

    // ---- plan

    private static void plan(Bound b, String what, OathYesterday x, int oath, int day, int... want) {
        b.due(what + ": how many", x.plan(oath, day, 0), want[0]);
        b.due(what + ": which", x.plan(oath, day, 1), want[1]);
    }

    private static void plan() {
        Bound parts = Bound.of(34, "PLAN: how many (0), which (1).");
        String all = "a3&!a1&b3&!b1&c3&!c1&d";
        String[] first = {all, "a3", "!a1", "b3", "!b1", "c3", "!c1", "d"};
        String[] last = {"a3", "!a1", "b3", "!b1", "c3", "!c1", "d", all};
        plan(parts, "all seven others", Bound.big(first), 0, 6, 7, 254);
        plan(parts, "all seven ahead", Bound.big(last), 7, 6, 7, 127);
        plan(parts, "what is sure", Bound.six(), 3, 0, 0, 0);
        plan(parts, "what is sure by what is sworn", Bound.rich(), 1, 3, 0, 0);
        plan(parts, "one alone that is sure", Check.made("t2;e", "!a"), 0, 0, 0, 0);
        Bound least = Bound.term(34, "the fewest other OATHS sworn on that day (they have to HOLD in some LIFE that FITS) so "
                + "that it HOLDS in all that then FIT (bits; of several the least): how many, which");
        plan(least, "of two alike the first", Check.made("t2;e", "a", "a0", "a0"), 0, 2, 1, 2);
        plan(least, "one ahead of two", Check.made("t2;e;e", "a&b", "a", "b", "b&a"), 0, 2, 1, 8);
        plan(least, "of two pairs the least", Check.made("t2;e;e", "a", "b", "a&b", "b", "a"), 2, 2, 2, 3);
        plan(least, "another one than itself", Check.made("t2;e", "a"), 0, 2, NONE, NONE);
        plan(least, "others that can't be together", Check.made("t2;e;e", "a", "b", "!b"), 0, 2, NONE, NONE);
        plan(least, "one that can't be at all", Check.made("t2;e;e", "a", "b&!b"), 0, 2, NONE, NONE);
        plan(least, "on day 1 by what is seen", Check.made("t2;e", "a0", "a"), 0, 1, 1, 2);
        plan(least, "on day 2 not", Check.made("t2;e", "a0", "a"), 0, 2, NONE, NONE);
        plan(least, "# by what is sworn now", Check.made("t2;e", "#0", "a"), 0, 2, NONE, NONE);
        OathYesterday x = Check.made("t2;e", "#0", "a");
        x.swear(0, 1, 2, 0);
        plan(least, "# of what is sworn", x, 0, 2, 0, 0);
        planAmongMany(least);
    }

    /** 00121 is the 64th of 16807 lives behind the least one: the others have to be held against it, too. */
    private static void planAmongMany(Bound least) {
        String one = "a0&b0&c1&!c0&d2&!d1&e1&!e0";
        String last = "a5&!a4&b5&!b4&c5&!c4&d5&!d4&e5&!e4";
        String never = "!(a|b|c|d|e)";
        OathYesterday x = Bound.big(one + "|" + last, "!a0", last, one, never + "|" + one, never);
        plan(least, "two of many, one life is left", x, 2, 6, 2, 3);
        plan(least, "the other one is left", x, 3, 6, 2, 17);
        plan(least, "what is left is otherwise", Bound.big(one + "|" + last, "!a0", "a4&!a3"), 2, 6, NONE, NONE);
        plan(least, "one is enough for what is seen", x, 4, 0, 0, 0);
        plan(least, "of three the two", x, 5, 6, 2, 18);
    }

    private static void planRefused() {
        Bound cant = Bound.of(34, "NONE: it can't be");
        Bound no = Bound.of(34, "no such ones");
        for (int part = 0; part < 2; part++) {
            int what = part;
            cant.refused("a0, " + what, () -> Check.made("t2;e", "a0", "a"), NONE, x -> x.plan(0, 2, what));
            cant.refused("none fits, " + what, Bound::noFit, NONE, x -> x.plan(3, 0, what));
            cant.refused("no life is possible, " + what, Bound::noLife, NONE, x -> x.plan(3, 0, what));
            no.refused("no land, " + what, Bound::noLand, NONE, x -> x.plan(1, 0, what));
            no.refused("no oaths, " + what, Bound::noOaths, NONE, x -> x.plan(0, 0, what));
        }
        no.refusedBy("oath", Bound::rich, NONE, (x, v) -> x.plan(v, 3, 0), -1, 6, 7, 8, 9);
        no.refusedBy("day", Bound::rich, NONE, (x, v) -> x.plan(1, v, 0), -1, 4, 9);
        no.refusedBy("what", Bound::rich, NONE, (x, v) -> x.plan(1, 3, v), -1, 2, 3);
    }

    // ---- implies, same, days

    private static void implies() {
        Bound b = Bound.of(35, "IMPLIES (1, 0).");
        OathYesterday x = Bound.big("a", "a5", "a4", "a&!a", "!(a|b|c|d|e)", "!a|b", "!a", "!e");
        int[][] want = {{0, 1, 6, 1}, {1, 0, 6, 1}, {0, 2, 6, 0}, {0, 2, 5, 1}, {2, 0, 6, 1}, {3, 0, 6, 1}, {3, 7, 0, 1},
            {0, 3, 6, 0}, {0, 3, 0, 1}, {7, 3, 0, 0}, {7, 7, 6, 1}, {4, 7, 6, 1}, {7, 4, 6, 0}, {4, 0, 6, 0}, {4, 0, 0, 0}};
        for (int[] w : want) {
            b.due("implies(" + w[0] + ", " + w[1] + ", " + w[2] + ")", x.implies(w[0], w[1], w[2]), w[3]);
        }
        b.due("no life is possible", Bound.noLife().implies(0, 3, 3), 1);
        b.due("none fits, but possible lives count", Bound.noFit().implies(0, 1, 3), 0);
        Bound no = Bound.of(35, "NONE: no such ones.");
        no.refusedBy("one", Bound::rich, NONE, (y, v) -> y.implies(v, 0, 3), -1, 6, 7, 8, 9);
        no.refusedBy("other", Bound::rich, NONE, (y, v) -> y.implies(0, v, 3), -1, 6, 7, 8, 9);
        no.refusedBy("day", Bound::rich, NONE, (y, v) -> y.implies(0, 1, v), -1, 4, 9);
        no.refusedBy("day of one alike", Bound::rich, NONE, (y, v) -> y.implies(0, 0, v), -1, 4);
        no.refused("no land", Bound::noLand, NONE, y -> y.implies(0, 1, 0));
        no.refused("no oaths", Bound::noOaths, NONE, y -> y.implies(0, 0, 0));
    }

    private static void same() {
        Bound b = Bound.term(36, "SAME: OATHS (bits) that HOLD in the same POSSIBLE LIVES on that day (itself, too).");
        b.due("all of eight", eight().same(7, 2), 255);
        b.due("itself alone", Check.made("t2;e", "a", "!a", "a0").same(1, 2), 2);
        b.due("the only one", Check.made("t2;e", "a").same(0, 0), 1);
        b.due("none of both holds", Check.made("t2;e", "a", "!a", "a0").same(0, 0), 5);
        b.due("no life is possible", Bound.noLife().same(0, 3), 63);
        b.due("none fits, but possible lives count", Bound.noFit().same(0, 3), 1);
        b.due("all but one life", Bound.big("a|!a", "a|b|c|d|e").same(0, 6), 1);
        Bound.of(36, "SAME, as bits.").due("the last day of six", Bound.big("a", "a5", "a4").same(0, 6), 3);
        Bound.of(36, "SAME, as bits.").due("the last day but one", Bound.big("a", "a5", "a4").same(0, 5), 7);
        Bound no = Bound.of(36, "NONE: no such ones.");
        no.refusedBy("oath", Bound::rich, NONE, (x, v) -> x.same(v, 3), -1, 6, 7, 8, 9);
        no.refusedBy("day", Bound::rich, NONE, (x, v) -> x.same(0, v), -1, 4, 9);
        no.refused("no land", Bound::noLand, NONE, x -> x.same(0, 0));
        no.refused("no oaths", Bound::noOaths, NONE, x -> x.same(0, 0));
    }

    private static void days() {
        Bound b = Bound.term(37, "DAYS of an OATH: those (0 .. DAYS, bits) on which it MAY be sworn.");
        b.due("all of six days", Bound.big("!a").days(0), 127);
        b.due("all of two days", Check.made("t2;e", "!a").days(0), 7);
        b.due("all but day 0", Bound.big("a").days(0), 126);
        b.due("the last day alone", Check.made("t6;ef5", "a").days(0), 64);
        b.due("no day", Check.made("t6;ef5", "a4").days(0), 0);
        b.due("the eighth", eight().days(7), 6);
        b.due("none fits", Bound.noFit().days(3), 0);
        b.due("no life is possible", Bound.noLife().days(3), 0);
        OathYesterday x = Bound.six();
        x.swear(0, 0, 1, 0);
        b.due("day 0 alone", x.days(3), 1);
        b.due("# by what is sworn now", x.days(5), 15);
        Bound.of(37, "DAYS of an OATH, as bits.").due("the last oath", Bound.tenSworn().days(5), 15);
        Bound no = Bound.of(37, "NONE: no such one");
        no.refusedBy("oath", Bound::rich, NONE, (y, v) -> y.days(v), -1, 6, 7, 8, 9);
        no.refused("no oaths", Bound::noOaths, NONE, y -> y.days(0));
        Bound.of(37, "no LAND").refusedBy("oath", Bound::noLand, NONE, (y, v) -> y.days(v), 0, 1);
    }
}
