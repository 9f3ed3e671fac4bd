/** Boundaries of promises 7 to 10, 25, 31 and 46 to 48: what is told, undone, kept and counted. */
final class BoundActs {
    private static final int NONE = OathYesterday.NONE;
    private static final int HIDDEN = OathYesterday.HIDDEN;
    /** Dates on which the facts of full() tell that a deed was not done. */
    private static final int[] DATES_OUT = {0, 3, 9, 5};

    private BoundActs() {
    }

    static void run() {
        swearTaken();
        swearRefused();
        swearTen();
        sworn();
        factTaken();
        factRefused();
        factTwenty();
        undo();
        weigh();
        stake();
        image();
        imageOfAll();
        weightsOfAll();
        back();
        count();
        refusals();
    }

    /** Ten sworn ones and twenty facts: thirty acts, the last one a fact. */
    private static OathYesterday thirty() {
        OathYesterday x = Bound.tenSworn();
        for (int i = 0; i < 20; i++) {
            x.fact(0, 2, false);
        }
        return x;
    }

    private static void swearTaken() {
        Bound b = Bound.term(7, "SWORN (10 at most): a PERSON (0 .. 5), an OATH, a day (0 .. DAYS), a COST (0 .. 99).");
        OathYesterday x = Bound.six();
        int[][] taken = {{0, 0, 0, 0}, {5, 0, 0, 0}, {0, 5, 0, 0}, {0, 0, 3, 0}, {0, 0, 0, 99}, {5, 5, 3, 99}};
        for (int i = 0; i < taken.length; i++) {
            int[] t = taken[i];
            b.due("swear " + i, x.swear(t[0], t[1], t[2], t[3]), i + 1);
            for (int what = 0; what < 4; what++) {
                b.due("sworn(" + i + ", " + what + ")", x.sworn(i, what), t[what]);
            }
        }
        for (int days = 2; days <= 6; days++) {
            String land = "t" + days + ";e";
            b.due("day " + days + " of " + days, Check.made(land, "a").swear(0, 0, days, 1), 1);
            int above = days + 1;
            b.refused("day " + above + " of " + days, () -> Check.made(land, "a"), NONE, y -> y.swear(0, 0, above, 1));
        }
        OathYesterday eight = Check.made("t2;e", "a", "a", "a", "a", "a", "a", "a", "!a");
        b.due("the eighth oath", eight.swear(0, 7, 0, 0), 1);
        b.due("its number", eight.sworn(0, 1), 7);
        b.refusedBy("of eight, oath", () -> Check.made("t2;e", "a", "a", "a", "a", "a", "a", "a", "!a"), NONE,
                (y, v) -> y.swear(0, v, 0, 0), -1, 8, 9);
    }

    private static void swearRefused() {
        Bound b = Bound.of(7, "NONE: no such ones");
        b.refusedBy("person", Bound::rich, NONE, (x, v) -> x.swear(v, 0, 0, 0), -1, 6, 9);
        b.refusedBy("oath", Bound::rich, NONE, (x, v) -> x.swear(0, v, 0, 0), -1, 6, 7, 8, 9);
        b.refusedBy("day", Bound::rich, NONE, (x, v) -> x.swear(0, 0, v, 0), -1, 4, 5, 6, 9);
        b.refusedBy("cost", Bound::rich, NONE, (x, v) -> x.swear(0, 0, 0, v), -1, 100);
        b.refused("no oaths", Bound::noOaths, NONE, x -> x.swear(0, 0, 0, 0));
        b.refused("all of them", Bound::rich, NONE, x -> x.swear(6, 6, 4, 100));
        Bound land = Bound.of(7, "no LAND");
        land.refusedBy("day", Bound::noLand, NONE, (x, v) -> x.swear(0, 0, v, 0), 0, 1);
        land.refused("a new object", OathYesterday::new, NONE, x -> x.swear(0, 0, 0, 0));
    }

    private static void swearTen() {
        Bound b = Bound.of(7, "there are ten");
        OathYesterday x = Bound.tenSworn();
        b.due("ten", x.count(4), 10);
        b.refused("the eleventh", Bound::tenSworn, NONE, y -> y.swear(0, 0, 0, 0));
        b.refused("the eleventh, with facts", BoundActs::thirty, NONE, y -> y.swear(0, 0, 0, 0));
        b.due("undo", x.undo(), 9);
        b.due("the tenth again", x.swear(5, 0, 3, 99), 10);
        b.due("the eleventh again", x.swear(5, 0, 3, 99), NONE);
        b.due("another land", Check.land(x, "t2;e"), 1);
        for (int i = 1; i <= 10; i++) {
            b.due("its own ten", x.swear(0, 0, 0, 0), i);
        }
        b.due("its eleventh", x.swear(0, 0, 0, 0), NONE);
        OathYesterday facts = Bound.twentyFacts();
        for (int i = 1; i <= 10; i++) {
            b.due("ten beside twenty facts", facts.swear(0, 0, 0, 0), i);
        }
    }

    private static void sworn() {
        Bound parts = Bound.of(8, "Of a SWORN one: 0 PERSON, 1 OATH, 2 day, 3 COST.");
        OathYesterday x = Bound.tenSworn();
        int[][] want = {{0, 3, 0, 0}, {3, 3, 0, 90}};
        for (int what = 0; what < 4; what++) {
            parts.due("the first, " + what, x.sworn(0, what), want[0][what]);
            parts.due("the tenth, " + what, x.sworn(9, what), want[1][what]);
        }
        Bound b = Bound.of(8, "NONE: no such ones.");
        b.refusedBy("of ten", Bound::tenSworn, NONE, (y, v) -> y.sworn(v, 0), -1, 10, 11);
        b.refusedBy("of two", Bound::rich, NONE, (y, v) -> y.sworn(v, 3), -1, 2, 3, 9);
        b.refusedBy("what", Bound::rich, NONE, (y, v) -> y.sworn(1, v), -1, 4, 5);
        b.refusedBy("what of the last", Bound::tenSworn, NONE, (y, v) -> y.sworn(9, v), -1, 4);
        b.refusedBy("of none", Bound::six, NONE, (y, v) -> y.sworn(v, 0), -1, 0, 1);
        b.refusedBy("without a land", Bound::noLand, NONE, (y, v) -> y.sworn(v, 0), 0);
        x.undo();
        b.due("an undone one", x.sworn(9, 0), NONE);
        b.due("the one ahead of it", x.sworn(8, 3), 80);
    }

    private static void factTaken() {
        Bound days = Bound.of(9, "A FACT (day 9: never): how many there are.");
        OathYesterday x = Bound.six();
        int[][] taken = {{0, 0}, {0, 2}, {0, 9}, {1, 0}, {1, 2}, {1, 9}};
        for (int i = 0; i < taken.length; i++) {
            days.due("fact " + i, x.fact(taken[i][0], taken[i][1], false), i + 1);
        }
        for (int span = 2; span <= 6; span++) {
            String land = "t" + span + ";e;e";
            days.due("the last day of " + span, Check.made(land).fact(1, span - 1, true), 1);
            days.due("never", Check.made(land).fact(1, 9, true), 1);
            int above = span;
            days.refused("day " + span + " of " + span, () -> Check.made(land), NONE, y -> y.fact(1, above, true));
        }
        days.due("the fifth deed", Bound.big().fact(4, 5, true), 1);
        Bound b = Bound.term(9, "FACTS (20 at most): a DEED was done on a day, or was not done on it; or it is never done, "
                + "or it is (day 9).");
        OathYesterday y = Bound.six();
        int[][] told = {{0, 2, 1, 3}, {0, 2, 0, 9}, {0, 0, 1, 3}, {0, 0, 0, 9}, {0, 9, 1, 3}, {0, 9, 0, 9}, {1, 9, 0, 8},
            {1, 9, 1, 4}};
        for (int[] t : told) {
            y.fact(t[0], t[1], t[2] == 1);
            b.due("lives by fact(" + t[0] + ", " + t[1] + ", " + t[2] + ")", y.lives(false, NONE), t[3]);
            y.undo();
        }
        b.due("lives by no fact", y.lives(false, NONE), 12);
    }

    private static void factRefused() {
        Bound b = Bound.of(9, "NONE: no such ones");
        for (boolean is : new boolean[] {true, false}) {
            b.refusedBy("deed", Bound::rich, NONE, (x, v) -> x.fact(v, 1, is), -1, 2, 5);
            b.refusedBy("day", Bound::rich, NONE, (x, v) -> x.fact(0, v, is), -1, 3, 5, 6, 8, 10);
            b.refusedBy("without a land, day", Bound::noLand, NONE, (x, v) -> x.fact(0, v, is), 0, 9);
            b.refusedBy("of five, deed", Bound::big, NONE, (x, v) -> x.fact(v, 0, is), -1, 5);
            b.refusedBy("of six, day", Bound::big, NONE, (x, v) -> x.fact(4, v, is), -1, 6, 7, 8, 10);
        }
    }

    private static void factTwenty() {
        Bound b = Bound.of(9, "there are 20");
        b.due("twenty", Bound.twentyFacts().count(5), 20);
        b.due("lives", Bound.twentyFacts().lives(false, NONE), 6);
        b.refused("the 21st", Bound::twentyFacts, NONE, x -> x.fact(0, 0, true));
        b.refused("the 21st, told already", Bound::twentyFacts, NONE, x -> x.fact(0, 2, false));
        b.refused("the 21st, with ten sworn", BoundActs::thirty, NONE, x -> x.fact(0, 0, true));
        OathYesterday x = Bound.twentyFacts();
        b.due("undo", x.undo(), 19);
        b.due("the 20th again", x.fact(0, 0, true), 20);
        b.due("lives", x.lives(false, NONE), 3);
        b.due("the 21st again", x.fact(0, 0, true), NONE);
        OathYesterday y = Bound.tenSworn();
        for (int i = 1; i <= 20; i++) {
            b.due("twenty beside ten sworn", y.fact(0, 0, true), i);
        }
    }

    private static void undo() {
        Bound b = Bound.of(10, "The latest ACT is UNDONE: how many ACTS there are.");
        OathYesterday x = thirty();
        b.due("thirty", x.count(6), 30);
        for (int left = 29; left >= 0; left--) {
            b.due("undo", x.undo(), left);
            b.due("facts", x.count(5), Math.max(0, left - 10));
            b.due("sworn", x.count(4), Math.min(10, left));
        }
        Bound none = Bound.of(10, "NONE: none.");
        none.due("after all", x.undo(), NONE);
        none.refused("nothing is told", Bound::six, NONE, OathYesterday::undo);
        none.refused("no land", Bound::noLand, NONE, OathYesterday::undo);
        Bound acts = Bound.term(10, "ACTS (SWORN, FACTS) can be UNDONE, the latest first.");
        OathYesterday y = Bound.six();
        y.weigh(0, 0, 5);
        y.stake(0, 9);
        y.image();
        acts.due("weights, gains and an image are none", y.undo(), NONE);
        y.fact(0, 0, true);
        y.swear(0, 1, 3, 1);
        y.fact(1, 2, true);
        int[][] want = {{2, 1, 1, 2}, {1, 0, 1, 3}, {0, 0, 0, 12}};
        for (int[] w : want) {
            acts.due("undo", y.undo(), w[0]);
            acts.due("sworn", y.count(4), w[1]);
            acts.due("facts", y.count(5), w[2]);
            acts.due("fit", y.lives(true, NONE), w[3]);
        }
        acts.due("no more", y.undo(), NONE);
    }

    private static void weigh() {
        Bound b = Bound.term(25, "WEIGHTS (0 .. 9; 1 at first) of days of a DEED (0 .. DAYS less 1, whether it can be done "
                + "then or not; never: day 9).");
        OathYesterday x = Check.made("t2;e", "a0");
        b.due("1 at first", x.odds(0, 2, 0), 1);
        b.due("1 at first (below)", x.odds(0, 2, 1), 3);
        for (int v = 1; v <= 9; v++) {
            b.due("weigh(0, 0, " + v + ")", x.weigh(0, 0, v), true);
            b.due("weigh(0, 9, 9)", x.weigh(0, 9, 9), true);
            int d = v == 2 || v == 4 || v == 6 || v == 8 ? 2 : v == 5 ? 5 : 1;
            b.due("odds", x.odds(0, 2, 0), v / d);
            b.due("odds (below)", x.odds(0, 2, 1), (v + 10) / d);
        }
        b.due("0", x.weigh(0, 0, 0), true);
        b.due("odds of 0", x.odds(0, 2, 0), 0);
        OathYesterday y = Check.made("t6;e;ef2l3", "b");
        for (int day : new int[] {0, 1, 4, 5}) {
            b.due("a day on which it can't be done", y.weigh(1, day, 9), true);
        }
        b.due("odds of b", y.odds(0, 6, 0), 2);
        b.due("odds of b (below)", y.odds(0, 6, 1), 3);
        Bound no = Bound.of(25, "False: no such ones.");
        no.refusedBy("weight", Bound::rich, 0, (z, v) -> z.weigh(0, 0, v) ? 1 : 0, -1, 10);
        no.refusedBy("weight of never", Bound::rich, 0, (z, v) -> z.weigh(1, 9, v) ? 1 : 0, -1, 10);
        no.refusedBy("day", Bound::rich, 0, (z, v) -> z.weigh(0, v, 5) ? 1 : 0, -1, 3, 5, 6, 8, 10);
        no.refusedBy("day of six", Bound::big, 0, (z, v) -> z.weigh(4, v, 5) ? 1 : 0, -1, 6, 7, 8, 10);
        no.refusedBy("deed", Bound::rich, 0, (z, v) -> z.weigh(v, 0, 5) ? 1 : 0, -1, 2, 5);
        no.refusedBy("deed of five", Bound::big, 0, (z, v) -> z.weigh(v, 0, 5) ? 1 : 0, -1, 5);
        no.refusedBy("without a land", Bound::noLand, 0, (z, v) -> z.weigh(0, v, 5) ? 1 : 0, 0, 9);
    }

    private static void stake() {
        Bound b = Bound.term(31, "GAINS (0 .. 99 of each OATH; 0 at first).");
        OathYesterday x = Check.made("t2;e", "a", "!a");
        b.due("0 at first: all pairs rest for nothing", x.duel(2, 0, NONE), 9);
        b.due("99", x.stake(1, 99), true);
        b.due("98", x.stake(0, 98), true);
        b.due("99 is more", x.bait(2, 0), 11);
        b.due("99 likewise", x.stake(0, 99), true);
        b.due("the lower of two alike", x.bait(2, 0), 0);
        b.due("0", x.stake(0, 0), true);
        b.due("0 is less", x.bait(2, 0), 11);
        b.due("0 of the other", x.stake(1, 0), true);
        b.due("as at first", x.duel(2, 0, NONE), 9);
        OathYesterday eight = Check.made("t2;e", "a", "a", "a", "a", "a", "a", "a", "!a");
        b.due("of the eighth", eight.stake(7, 1), true);
        b.due("it has more", eight.bait(2, 0), 77);
        OathYesterday none = new OathYesterday();
        Check.oath(none, "a");
        b.due("without a land", none.stake(0, 4), true);
        Bound no = Bound.of(31, "False: no such ones");
        no.refusedBy("oath", Bound::rich, 0, (z, v) -> z.stake(v, 50) ? 1 : 0, -1, 6, 7, 8);
        no.refused("of none", Bound::noOaths, 0, z -> z.stake(0, 50) ? 1 : 0);
        Bound out = Bound.of(31, "out of bounds");
        out.refusedBy("gain", Bound::rich, 0, (z, v) -> z.stake(0, v) ? 1 : 0, -1, 100);
        out.refusedBy("gain of the last", Bound::rich, 0, (z, v) -> z.stake(5, v) ? 1 : 0, -1, 100);
        out.refusedBy("gain without a land", Bound::noLand, 0, (z, v) -> z.stake(0, v) ? 1 : 0, -1, 100);
    }

    private static void image() {
        Bound b = Bound.of(46, "An IMAGE (instead of the one ahead): how many ACTS.");
        OathYesterday x = Bound.six();
        b.due("of no acts", x.image(), 0);
        x.swear(0, 0, 1, 1);
        x.fact(0, 0, true);
        b.due("of two", x.image(), 2);
        x.undo();
        b.due("of one", x.image(), 1);
        x.undo();
        b.due("the last of three", x.back(), 1);
        b.due("of thirty", thirty().image(), 30);
        b.due("where no life is possible", Bound.noLife().image(), 3);
        Bound keeps = Bound.term(46, "An IMAGE keeps SWORN, FACTS, WEIGHTS (GAINS not); BACK: they are so again.");
        OathYesterday y = Check.made("t2;e", "a", "!a");
        y.stake(0, 5);
        y.weigh(0, 0, 0);
        y.weigh(0, 9, 9);
        y.swear(5, 0, 2, 99);
        y.fact(0, 0, false);
        y.image();
        y.stake(0, 0);
        y.stake(1, 7);
        y.weigh(0, 0, 8);
        y.weigh(0, 9, 1);
        y.undo();
        y.undo();
        keeps.due("back", y.back(), 2);
        keeps.due("sworn", y.sworn(0, 3), 99);
        keeps.due("fit", y.lives(true, NONE), 1);
        keeps.due("the facts come behind", y.undo(), 1);
        keeps.due("fit", y.lives(true, NONE), 2);
        y.undo();
        keeps.due("weights", y.odds(0, 2, 0), 1);
        keeps.due("weights (below)", y.odds(0, 2, 1), 10);
        keeps.due("gains are those of now", y.bait(2, 0), 11);
        for (int row = 0; row < 2; row++) {
            OathYesterday other = Bound.rich();
            other.image();
            overwrite(other, row == 0);
            keeps.due("acts of another kind in their places", other.count(6), 6);
            other.back();
            OathYesterday asIs = Bound.rich();
            asIs.image();
            keeps.due("all is so again", Bound.look(other).equals(Bound.look(asIs)), true);
        }
        Bound land = Bound.of(46, "NONE: no LAND.");
        land.refused("oaths alone", Bound::noLand, NONE, OathYesterday::image);
        land.refused("a new object", OathYesterday::new, NONE, OathYesterday::image);
    }

    /** Other acts in the places of those that are kept, and in another order. */
    private static void overwrite(OathYesterday x, boolean factsFirst) {
        while (x.undo() != NONE) {
            x.weigh(0, 9, 7);
        }
        for (int i = 0; i < 6; i++) {
            if (i % 2 == 0 == factsFirst) {
                x.fact(i % 2, 2, i % 3 == 0);
            } else {
                x.swear(4 - i % 3, 3 - i % 2, i % 3, 50 + i);
            }
        }
        x.weigh(1, 2, 5);
        x.weigh(1, 9, 3);
    }

    /** Ten sworn ones and twenty facts, no two alike, in turns: a sworn one behind each second fact. */
    private static OathYesterday full() {
        OathYesterday x = Check.made(Bound.BIG, "a", "b", "c", "d", "e", "a|!a", "b|!b", "!(c&!c)");
        for (int i = 0; i < 20; i++) {
            x.fact(i % 5, DATES_OUT[i / 5], false);
            if (i % 2 == 1) {
                int k = i / 2;
                x.swear(k % 6, 5 + k % 3, k % 7, 9 * k + 3);
            }
        }
        return x;
    }

    /** Whatever was told in their places since, each act and the order of them are as they were. */
    private static void imageOfAll() {
        Bound b = Bound.term(47, "BACK: they are so again.");
        OathYesterday x = full();
        b.due("acts", x.image(), 30);
        b.due("lives", x.lives(false, NONE), 243);
        while (x.undo() != NONE) {
            x.weigh(0, 0, 2);
        }
        for (int i = 0; i < 20; i++) {
            x.swear(5 - i % 6, i % 5, 6 - i % 7, 98 - i);
        }
        for (int i = 0; i < 20; i++) {
            x.fact(4 - i % 5, 2, true);
        }
        b.due("other acts", x.count(6), 30);
        b.due("no life", x.lives(true, NONE), 0);
        b.due("back", x.back(), 30);
        for (int k = 0; k < 10; k++) {
            int[] want = {k % 6, 5 + k % 3, k % 7, 9 * k + 3};
            for (int what = 0; what < 4; what++) {
                b.due("sworn(" + k + ", " + what + ")", x.sworn(k, what), want[what]);
            }
        }
        int[] options = {3, 3, 3, 3, 3};
        for (int i = 19; i >= 0; i--) {
            int lives = options[0] * options[1] * options[2] * options[3] * options[4];
            b.due("lives with " + (i + 1) + " facts", x.lives(false, NONE), lives);
            b.due("they fit with " + (i + 1) + " facts", x.lives(true, NONE), lives);
            if (i % 2 == 1) {
                x.undo();
                b.due("sworn with " + (i + 1) + " facts", x.count(4), i / 2);
            }
            x.undo();
            b.due("facts", x.count(5), i);
            options[i % 5]++;
        }
        b.due("no more", x.undo(), NONE);
    }

    private static int weightToTell(int deed, int date) {
        return (3 * deed + 7 * date + 2) % 10;
    }

    private static void weighAll(OathYesterday x, int more) {
        for (int deed = 0; deed < 5; deed++) {
            for (int day = 0; day < 6; day++) {
                x.weigh(deed, day, (weightToTell(deed, day) + more) % 10);
            }
            x.weigh(deed, 9, (weightToTell(deed, 6) + more) % 10);
        }
    }

    /** The odds that each deed is done ahead of each day; weights are all 1, or as they were told. */
    private static void weightsAre(Bound b, String what, OathYesterday x, boolean told) {
        for (int deed = 0; deed < 5; deed++) {
            int all = 0;
            for (int date = 0; date < 7; date++) {
                all += told ? weightToTell(deed, date) : 1;
            }
            int ahead = 0;
            for (int day = 0; day <= 6; day++) {
                int divisor = divisorOf(ahead, all);
                String odds = what + ": odds(" + deed + ", " + day + ")";
                b.due(odds, x.odds(deed, day, 0), ahead / divisor);
                b.due(odds + " (below)", x.odds(deed, day, 1), all / divisor);
                ahead += told ? weightToTell(deed, day) : 1;
            }
        }
    }

    private static int divisorOf(int above, int below) {
        return above == 0 ? below : divisorOf(below % above, above);
    }

    /** Each weight of each deed, never among them, is told, kept, brought back, and gone with the land. */
    private static void weightsOfAll() {
        Bound told = Bound.of(25, "A WEIGHT.");
        OathYesterday x = Bound.big("a", "b", "c", "d", "e");
        weightsAre(told, "1 at first", x, false);
        weighAll(x, 0);
        weightsAre(told, "told", x, true);
        Bound kept = Bound.term(46, "An IMAGE keeps SWORN, FACTS, WEIGHTS (GAINS not)");
        kept.due("image", x.image(), 0);
        weighAll(x, 5);
        kept.due("back", x.back(), 0);
        weightsAre(kept, "back", x, true);
        weighAll(x, 1);
        x.back();
        weightsAre(kept, "back once more", x, true);
        Bound gone = Bound.of(5, "(SWORN, FACTS, WEIGHTS, IMAGE of another one are gone; OATHS stay, and their GAINS)");
        Check.land(x, Bound.BIG);
        weightsAre(gone, "another land", x, false);
    }

    private static void back() {
        Bound b = Bound.of(47, "BACK: how many ACTS.");
        OathYesterday x = thirty();
        x.image();
        for (int i = 0; i < 30; i++) {
            x.undo();
        }
        b.due("to thirty", x.back(), 30);
        b.due("ten", x.count(4), 10);
        b.due("twenty", x.count(5), 20);
        b.due("the eleventh", x.swear(0, 0, 0, 0), NONE);
        b.due("the 21st", x.fact(0, 0, true), NONE);
        b.due("once more", x.back(), 30);
        OathYesterday y = Bound.six();
        y.image();
        y.swear(0, 0, 0, 0);
        b.due("to none", y.back(), 0);
        b.due("nothing to undo", y.undo(), NONE);
        b.due("all lives fit", y.lives(true, NONE), 12);
        Bound no = Bound.of(47, "NONE: no IMAGE of this LAND.");
        no.refused("none was made", Bound::noFit, NONE, OathYesterday::back);
        no.refused("no land", Bound::noLand, NONE, OathYesterday::back);
        no.refused("another land", () -> told("t2;e"), NONE, OathYesterday::back);
        no.refused("the same land told again", () -> told(Bound.LAND), NONE, OathYesterday::back);
        OathYesterday faulty = told("t2;e");
        faulty.image();
        Check.land(faulty, "t7;e");
        no.due("a faulty land leaves the image", faulty.back(), 0);
    }

    private static OathYesterday told(String land) {
        OathYesterday x = Bound.rich();
        Check.land(x, land);
        x.swear(0, 0, 1, 1);
        x.undo();
        return x;
    }

    private static void count() {
        Bound b = Bound.of(48, "0 DEEDS, 1 DAYS, 2 OATHS, 3 bytes of the TAPE, 4 SWORN, 5 FACTS, 6 ACTS.");
        OathYesterday x = Check.made(Bound.BIG, "a", "a", "a", "a", "a", "a", "a", "a");
        for (int i = 0; i < 20; i++) {
            x.fact(0, 0, true);
            x.swear(0, 0, 0, 0);
        }
        Check.tape(x, "x".repeat(120));
        int[] most = {5, 6, 8, 120, 10, 20, 30};
        OathYesterday y = Check.made("t2;e");
        int[] least = {1, 2, 0, 0, 0, 0, 0};
        for (int what = 0; what < 7; what++) {
            b.due("the most of " + what, x.count(what), most[what]);
            b.due("the least of " + what, y.count(what), least[what]);
        }
        Bound others = Bound.of(48, "HIDDEN for others.");
        others.refusedBy("count", Bound::rich, HIDDEN, (z, v) -> z.count(v), -2, -1, 7, 8, 9);
        others.refusedBy("count without a land", Bound::noLand, HIDDEN, (z, v) -> z.count(v), -1, 7);
    }

    /** Many refused calls, one behind another, on one object. */
    private static void refusals() {
        Bound b = Bound.term(47, "What is refused answers as told and changes nothing.");
        OathYesterday x = Bound.rich();
        long[] answers = {x.swear(6, 0, 0, 0), x.fact(2, 0, true), x.weigh(0, 0, 10) ? 1 : NONE, x.text(0), x.text(1),
            x.stake(0, 100) ? 1 : NONE, x.end(4) ? 1 : NONE, x.lives(true, 3), x.holds(0, 4, 1), x.when(2), x.may(4),
            x.most(4, 0), x.hinders(-1), x.must(-1), x.care(0, 4, 0), x.perjured(3), x.guilt(6), x.blame(2),
            x.odds(6, 0, 0), x.question(2), x.settled(6, 0), x.rings(3, NONE), x.fall(2), x.duel(4, 0, NONE),
            x.bait(0, 100), x.plan(0, 0, 2), x.implies(0, 6, 0), x.same(6, 0), x.days(6), x.near(3, 0), x.alibi(0, 3),
            x.mean(2), x.busy(2), x.rows(0, 0, 0), x.sworn(2, 0)};
        for (int i = 0; i < answers.length; i++) {
            b.due("answer " + i, answers[i], NONE);
        }
        b.due("all is as it was", Bound.look(x).equals(Bound.look(Bound.rich())), true);
    }
}
