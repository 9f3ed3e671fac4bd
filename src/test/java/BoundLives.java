import java.util.Set;

/** Boundaries of promises 11 to 24: lives, what they hold, what may be sworn, and what it costs. */
final class BoundLives {
    private static final int NONE = OathYesterday.NONE;
    private static final int HIDDEN = OathYesterday.HIDDEN;

    private BoundLives() {
    }

    static void run() {
        lives();
        livesOfWords();
        livesWithGaps();
        livesByFacts();
        holdsBySight();
        holdsByDigit();
        holdsByTwo();
        holdsByName();
        holdsWithoutDeed();
        holdsRefused();
        when();
        breaks();
        clash();
        may();
        most();
        hinders();
        must();
        care();
        careRefused();
        perjured();
        guilt();
        blame();
        worth();
        worthRefused();
    }

    /** The i-th life of five deeds on six days: i to the base 7, a 6 of it for never. */
    private static int bigLife(int i) {
        int life = 0;
        for (int power = 2401; power > 0; power /= 7) {
            int digit = i / power % 7;
            life = 10 * life + (digit == 6 ? 9 : digit);
        }
        return life;
    }

    /** The least life alone is possible: both deeds on their first days. */
    private static OathYesterday firstAlone() {
        OathYesterday x = Bound.six();
        x.fact(0, 0, true);
        x.fact(1, 1, true);
        return x;
    }

    private static OathYesterday sworn(int times, int oath, int day, int cost) {
        OathYesterday x = Bound.six();
        for (int i = 0; i < times; i++) {
            x.swear(5, oath, day, cost);
        }
        return x;
    }

    // ---- lives

    private static void lives() {
        Bound b = Bound.of(11, "LIVES POSSIBLE (fit false), that FIT: how many (i NONE), the i-th.");
        String[] lands = {"t2;ef1l1", "t2;e", "t6;ef5", "t6;e", Bound.LAND, Bound.BIG};
        int[][] want = {{2, 1, 9}, {3, 0, 9}, {2, 5, 9}, {7, 0, 9}, {12, 1, 99}, {16807, 0, 99999}};
        for (int i = 0; i < lands.length; i++) {
            OathYesterday x = Check.made(lands[i]);
            for (boolean fit : new boolean[] {false, true}) {
                b.due("lives of " + lands[i], x.lives(fit, NONE), want[i][0]);
                b.due("the first of " + lands[i], x.lives(fit, 0), want[i][1]);
                b.due("the last of " + lands[i], x.lives(fit, want[i][0] - 1), want[i][2]);
                b.due("one more of " + lands[i], x.lives(fit, want[i][0]), NONE);
            }
        }
        b.due("possible", Bound.rich().lives(false, NONE), 6);
        b.due("fit", Bound.rich().lives(true, NONE), 3);
        b.due("the last that is possible", Bound.rich().lives(false, 5), 29);
        b.due("the last that fits", Bound.rich().lives(true, 2), 22);
        Bound no = Bound.of(11, "NONE: no such one");
        no.refusedBy("of 6", Bound::rich, NONE, (x, v) -> x.lives(false, v), -2, 6, 7);
        no.refusedBy("of 3", Bound::rich, NONE, (x, v) -> x.lives(true, v), -2, 3, 6);
        no.refusedBy("of none", Bound::noFit, NONE, (x, v) -> x.lives(true, v), -2, 0, 1);
        no.refusedBy("of none", Bound::noLife, NONE, (x, v) -> x.lives(false, v), -2, 0, 1);
        no.refusedBy("of 16807", Bound::big, NONE, (x, v) -> x.lives(true, v), -2, 16807, 16831, 16832);
        Bound land = Bound.of(11, "no LAND");
        land.refusedBy("possible", Bound::noLand, NONE, (x, v) -> x.lives(false, v), NONE, 0);
        land.refusedBy("fit", Bound::noLand, NONE, (x, v) -> x.lives(true, v), NONE, 0);
    }

    private static void livesOfWords() {
        Bound b = Bound.term(11, "LIVES that are POSSIBLE, that FIT: how many, the i-th (rising).");
        OathYesterday x = Bound.big();
        for (int i : new int[] {0, 1, 5, 6, 7, 48, 49, 62, 63, 64, 65, 127, 128, 342, 343, 2400, 2401, 16767, 16768, 16806}) {
            b.due("life " + i, x.lives(false, i), bigLife(i));
        }
        OathYesterday full = Check.made("t3;e;e;e");
        b.due("64 lives", full.lives(false, NONE), 64);
        b.due("the 64th", full.lives(true, 63), 999);
        b.due("no 65th", full.lives(true, 64), NONE);
        OathYesterday mixed = Check.made("t3;e;ef1l1;el0;e");
        b.due("64 others", mixed.lives(false, NONE), 64);
        for (int i = 1; i < 64; i++) {
            b.due("rising at " + i, mixed.lives(true, i) > mixed.lives(true, i - 1), true);
        }
    }

    /** Fewer than all lives, so that the i-th one stands in a row's word by what is left of those ahead. */
    private static void livesWithGaps() {
        Bound b = Bound.of(11, "that FIT: how many (i NONE), the i-th.");
        OathYesterday x = Bound.big("e");
        x.swear(0, 0, 6, 0);
        b.due("lives", x.lives(true, NONE), 6 * 2401);
        for (int i = 0; i < 6 * 2401; i += i < 400 ? 1 : 97) {
            b.due("life " + i, x.lives(true, i), bigLife(i / 6 * 7 + i % 6));
        }
        OathYesterday one = Check.made("t6;el1;el3;el3;el3;el5", "!(a|b|c|d|e)", "a|b|c|d|e");
        b.due("one life more than 41 times 64", one.lives(false, NONE), 2625);
        b.due("the last one", one.lives(false, 2624), 99999);
        b.due("it may be alone", one.may(6), 3);
        b.due("it is none of the others", one.must(6), 0);
        one.swear(0, 0, 6, 0);
        b.due("it alone fits", one.lives(true, NONE), 1);
        b.due("it", one.lives(true, 0), 99999);
        b.due("no other", one.lives(true, 1), NONE);
        OathYesterday less = Check.made("t6;el1;el1;el5");
        b.due("one life less than 64", less.lives(false, NONE), 63);
        b.due("the last one", less.lives(false, 62), 999);
        b.due("no other", less.lives(false, 63), NONE);
    }

    private static void livesByFacts() {
        Bound digits = Bound.term(11, "as digits to the base 10, DEED a the highest, 9 for never");
        OathYesterday x = Check.made("t6;e;ef5;el0");
        digits.due("the first", x.lives(false, 0), 50);
        digits.due("the last", x.lives(false, x.lives(false, NONE) - 1), 999);
        x.fact(0, 3, true);
        digits.due("a on day 3", x.lives(false, 0), 350);
        x.fact(1, 9, true);
        digits.due("b never", x.lives(false, 0), 390);
        x.fact(2, 9, true);
        digits.due("c never", x.lives(false, 0), 399);
        Bound days = Bound.term(11, "for each DEED the day on which it is done (f .. l), or never");
        for (int f = 0; f < 6; f++) {
            for (int l = f; l < 6; l++) {
                OathYesterday y = Check.made("t6;ef" + f + "l" + l);
                days.due("f" + f + "l" + l, y.lives(false, NONE), l - f + 2);
                days.due("first", y.lives(false, 0), f);
                days.due("last", y.lives(false, l - f), l);
                days.due("never", y.lives(false, l - f + 1), 9);
            }
        }
        Bound facts = Bound.term(11, "A LIFE is POSSIBLE, if all FACTS are so; it FITS, if it is POSSIBLE and all that is "
                + "SWORN HOLDS (each on its day).");
        OathYesterday z = Bound.six();
        facts.due("no facts", z.lives(false, NONE), 12);
        facts.due("nothing sworn", z.lives(true, NONE), 12);
        z.swear(0, 0, 1, 0);
        facts.due("sworn on day 1", z.lives(true, NONE), 3);
        facts.due("possible are all", z.lives(false, NONE), 12);
        z.swear(0, 3, 0, 0);
        facts.due("sworn on day 0: nothing is done", z.lives(true, NONE), 3);
        z.fact(1, 2, true);
        facts.due("a fact", z.lives(false, NONE), 4);
        facts.due("both", z.lives(true, NONE), 1);
        z.swear(0, 0, 0, 0);
        facts.due("sworn on day 0: it is done", z.lives(true, NONE), 0);
    }

    // ---- holds

    private static void holdsBySight() {
        Bound b = Bound.term(12, "DEEDS that are done on a day up to s less 1; others are not done");
        OathYesterday x = Check.made("t6;e", "a", "!a");
        for (int s = 0; s <= 6; s++) {
            for (int life : new int[] {0, 1, 2, 3, 4, 5, 9}) {
                int seen = life < s && life != 9 ? 1 : 0;
                b.due("a on day " + s + " in " + life, x.holds(0, s, life), seen);
                b.due("!a on day " + s + " in " + life, x.holds(1, s, life), 1 - seen);
            }
        }
    }

    private static void holdsByDigit() {
        Bound b = Bound.term(12, "with a digit: it is, on that day or ahead of it");
        OathYesterday x = Check.made("t6;e", "a0", "a1", "a2", "a3", "a4", "a5");
        for (int s = 0; s <= 6; s++) {
            for (int life : new int[] {0, 1, 2, 3, 4, 5, 9}) {
                for (int k = 0; k <= 5; k++) {
                    int want = life < s && life <= k ? 1 : 0;
                    b.due("a" + k + " on day " + s + " in " + life, x.holds(k, s, life), want);
                }
            }
        }
        OathYesterday y = Check.made("t2;e", "a5", "a1", "a0");
        b.due("a digit above the days", y.holds(0, 2, 1), 1);
        b.due("likewise, not seen", y.holds(0, 1, 1), 0);
        b.due("likewise, never", y.holds(0, 2, 9), 0);
        b.due("on that day", y.holds(1, 2, 1), 1);
        b.due("behind that day", y.holds(2, 2, 1), 0);
    }

    private static void holdsByTwo() {
        Bound before = Bound.term(12, "x < y: both are, x on an earlier day");
        Bound together = Bound.term(12, "x = y: both are, on one day");
        OathYesterday x = Check.made("t6;e;e", "a<b", "b<a", "a=b", "b=a", "a<a", "a=a");
        int[] days = {0, 1, 2, 3, 4, 5, 9};
        for (int s = 0; s <= 6; s++) {
            for (int a : days) {
                for (int b : days) {
                    boolean both = a < s && b < s;
                    String at = " on day " + s + " in " + (10 * a + b);
                    before.due("a<b" + at, x.holds(0, s, 10 * a + b), both && a < b ? 1 : 0);
                    before.due("b<a" + at, x.holds(1, s, 10 * a + b), both && b < a ? 1 : 0);
                    before.due("a<a" + at, x.holds(4, s, 10 * a + b), 0);
                    together.due("a=b" + at, x.holds(2, s, 10 * a + b), both && a == b ? 1 : 0);
                    together.due("b=a" + at, x.holds(3, s, 10 * a + b), both && a == b ? 1 : 0);
                    together.due("a=a" + at, x.holds(5, s, 10 * a + b), a < s ? 1 : 0);
                }
            }
        }
    }

    private static void holdsByName() {
        Bound b = Bound.term(12, "# k: the k-th SWORN one is there (it was sworn, and is not UNDONE)");
        OathYesterday x = Check.made("t2;e", "#0", "#1", "#8", "#9", "!#9");
        b.due("#0 of none", x.holds(0, 2, 0), 0);
        for (int n = 1; n <= 10; n++) {
            x.swear(0, 0, 0, 0);
            b.due("#0 of " + n, x.holds(0, 0, 9), 1);
            b.due("#1 of " + n, x.holds(1, 1, 0), n > 1 ? 1 : 0);
            b.due("#8 of " + n, x.holds(2, 2, 1), n > 8 ? 1 : 0);
            b.due("#9 of " + n, x.holds(3, 0, 0), n > 9 ? 1 : 0);
            b.due("!#9 of " + n, x.holds(4, 0, 0), n > 9 ? 0 : 1);
        }
        x.image();
        x.undo();
        b.due("#9 is undone", x.holds(3, 0, 0), 0);
        b.due("#8 is not", x.holds(2, 0, 0), 1);
        x.fact(0, 0, true);
        b.due("a fact is not sworn", x.holds(3, 0, 0), 0);
        x.back();
        b.due("#9 is back", x.holds(3, 0, 0), 1);
        Check.land(x, "t2;e");
        b.due("none is there in a new land", x.holds(0, 0, 0), 0);
        OathYesterday y = Check.made("t2;e", "a");
        Check.oath(y, "#0");
        y.swear(0, 0, 0, 0);
        b.due("it is there, though it can't hold", y.holds(1, 0, 9), 1);
    }

    private static void holdsWithoutDeed() {
        Bound b = Bound.term(12, "of a letter without DEED: not done");
        String[] not = {"b", "b0", "e5", "a<b", "b<a", "a=e", "b=b", "d=c"};
        OathYesterday x = Check.made("t2;e", not);
        for (int i = 0; i < not.length; i++) {
            b.due(not[i], x.holds(i, 2, 0), 0);
        }
        OathYesterday y = Check.made("t2;e;e;e;e", "!e", "e", "!(d=e)", "d");
        b.due("!e of four", y.holds(0, 2, 0), 1);
        b.due("e of four", y.holds(1, 2, 0), 0);
        b.due("!(d=e) of four", y.holds(2, 2, 0), 1);
        b.due("d of four", y.holds(3, 2, 0), 1);
        Check.land(y, "t2;e;e;e;e;e");
        b.due("e of five", y.holds(1, 2, 0), 1);
        Check.land(y, "t2;e");
        b.due("d of one, behind five", y.holds(3, 2, 0), 0);
    }

    private static OathYesterday narrow() {
        return Check.made("t4;ef1l2;el1", "a", "b");
    }

    private static void holdsRefused() {
        Bound told = Bound.of(12, "Whether an OATH HOLDS on a day in a LIFE (1, 0).");
        Bound no = Bound.of(12, "NONE: no such ones (a LIFE with days that can't be).");
        Set<Integer> all = Set.of(10, 11, 19, 20, 21, 29, 90, 91, 99);
        OathYesterday x = narrow();
        for (int life = -120; life < 1200; life++) {
            if (all.contains(life)) {
                told.due("holds in " + life, x.holds(0, 4, life), life < 90 ? 1 : 0);
            } else {
                no.due("holds in " + life, x.holds(0, 4, life), NONE);
            }
        }
        told.due("by facts not possible", Bound.rich().holds(0, 3, 11), 1);
        told.due("where no life is possible", Bound.noLife().holds(0, 3, 11), 1);
        told.due("day 0", Bound.rich().holds(3, 0, 2), 1);
        told.due("the last day and oath", Bound.rich().holds(5, 3, 2), 1);
        no.refusedBy("life", BoundLives::narrow, NONE, (y, v) -> y.holds(0, 0, v), -1, 0, 9, 12, 18, 30, 110, 1000000010);
        no.refusedBy("life of five", () -> Bound.big("a"), NONE, (y, v) -> y.holds(0, 0, v), -1, 6, 60000, 70000, 80000,
                100000, 999999);
        no.refusedBy("day", Bound::rich, NONE, (y, v) -> y.holds(0, v, 1), -1, 4, 9);
        no.refusedBy("oath", Bound::rich, NONE, (y, v) -> y.holds(v, 0, 1), -1, 6, 7, 8, 9);
        no.refusedBy("no oaths", Bound::noOaths, NONE, (y, v) -> y.holds(v, 0, 1), 0);
        no.refusedBy("no land", Bound::noLand, NONE, (y, v) -> y.holds(0, v, 0), 0);
        OathYesterday largest = Bound.big("e");
        told.due("the least life", largest.holds(0, 1, 0), 1);
        told.due("the greatest life", largest.holds(0, 6, 99999), 0);
    }

    // ---- when, breaks, clash

    private static void when() {
        Bound bits = Bound.term(13, "days as bits (never as bit 9)");
        String[] lands = {"t6;e", "t6;ef5", "t6;el0", "t2;ef1", "t6;ef2l4"};
        int[] want = {575, 544, 513, 514, 540};
        for (int i = 0; i < lands.length; i++) {
            bits.due(lands[i], Check.made(lands[i]).when(0), want[i]);
        }
        OathYesterday x = Check.made("t6;e");
        x.fact(0, 9, true);
        bits.due("never alone", x.when(0), 512);
        x.undo();
        x.fact(0, 5, true);
        bits.due("day 5 alone", x.when(0), 32);
        Bound told = Bound.of(13, "WHEN, as bits.");
        told.due("the last deed", Bound.big().when(4), 575);
        told.due("none fits", Bound.noFit().when(0), 0);
        told.due("none is possible", Bound.noLife().when(1), 0);
        told.due("by what is sworn", Bound.rich().when(1), 4);
        Bound no = Bound.of(13, "NONE: no such DEED.");
        no.refusedBy("of two", Bound::rich, NONE, (y, v) -> y.when(v), -1, 2, 5);
        no.refusedBy("of five", Bound::big, NONE, (y, v) -> y.when(v), -1, 5, 6);
        no.refusedBy("of none", Bound::noLand, NONE, (y, v) -> y.when(v), -1, 0);
    }

    private static void breaks() {
        Bound b = Bound.term(14, "FIRST BREAK: the first SWORN one such that no POSSIBLE LIFE has it HOLD with all ahead of it.");
        OathYesterday x = sworn(9, 3, 0, 1);
        x.swear(0, 0, 0, 1);
        b.due("the tenth", x.breaks(), 9);
        b.due("the first of ten", sworn(10, 0, 0, 1).breaks(), 0);
        OathYesterday y = sworn(1, 0, 3, 1);
        y.swear(0, 3, 3, 1);
        y.swear(0, 0, 0, 1);
        b.due("the second, not the third", y.breaks(), 1);
        b.due("the first, if no life is possible", Bound.noLife().breaks(), 0);
        Bound none = Bound.of(14, "NONE: none");
        none.due("nothing is sworn", Bound.six().breaks(), NONE);
        none.due("ten hold", Bound.tenSworn().breaks(), NONE);
        OathYesterday z = Bound.noOaths();
        z.fact(0, 0, true);
        z.fact(0, 1, true);
        none.due("nothing is sworn, and no life is possible", z.breaks(), NONE);
        Bound.of(14, "no LAND").refused("breaks", Bound::noLand, NONE, OathYesterday::breaks);
    }

    private static void clash() {
        Bound b = Bound.of(15, "CLASH: 10 times the first and the second.");
        OathYesterday least = sworn(1, 0, 3, 1);
        least.swear(0, 3, 3, 1);
        b.due("0 and 1", least.clash(), 1);
        OathYesterday most = sworn(8, 3, 0, 1);
        most.swear(0, 0, 3, 1);
        most.swear(0, 3, 3, 1);
        b.due("8 and 9", most.clash(), 89);
        OathYesterday wide = sworn(1, 0, 3, 1);
        for (int i = 0; i < 8; i++) {
            wide.swear(0, 3, 0, 1);
        }
        wide.swear(0, 3, 3, 1);
        b.due("0 and 9", wide.clash(), 9);
        Bound each = Bound.term(15, "the first two of what is SWORN (lower first) that HOLD each in some POSSIBLE LIFE, but "
                + "never both");
        OathYesterday x = sworn(1, 0, 0, 1);
        x.swear(0, 3, 0, 1);
        each.due("the first can't hold at all", x.clash(), NONE);
        x.swear(0, 0, 3, 1);
        each.due("both can, and do", x.clash(), NONE);
        x.swear(0, 3, 3, 1);
        each.due("the later two", x.clash(), 23);
        x.fact(0, 9, false);
        each.due("by a fact one can't", x.clash(), NONE);
        Bound none = Bound.of(15, "NONE: none");
        none.due("nothing is sworn", Bound.six().clash(), NONE);
        none.due("one alone", sworn(1, 0, 0, 1).clash(), NONE);
        none.due("ten that hold", Bound.tenSworn().clash(), NONE);
        none.due("no life is possible", Bound.noLife().clash(), NONE);
        Bound.of(15, "no LAND").refused("clash", Bound::noLand, NONE, OathYesterday::clash);
    }

    // ---- may, most, hinders, must

    private static OathYesterday eight(String land, String oath) {
        return Check.made(land, oath, oath, oath, oath, oath, oath, oath, oath);
    }

    private static void may() {
        Bound b = Bound.term(16, "OATHS (bits) that could be SWORN on a day so that some LIFE that FITS has them HOLD, each "
                + "alone (# by what is SWORN now, in this part and in part 5)");
        b.due("all of eight", eight(Bound.LAND, "!a").may(0), 255);
        b.due("none of eight", eight(Bound.LAND, "a").may(0), 0);
        b.due("no oaths", Bound.noOaths().may(3), 0);
        b.due("day 0", Bound.six().may(0), 8);
        b.due("the last day", Bound.six().may(3), 31);
        b.due("# of what is sworn now", Bound.tenSworn().may(3), 63);
        b.due("each alone", Check.made("t2;e", "a", "!a").may(2), 3);
        b.due("none fits", Bound.noFit().may(0), 0);
        b.due("no life is possible", Bound.noLife().may(3), 0);
        b.due("in the last life alone", Bound.big("!(a|b|c|d|e)").may(6), 1);
        Bound land = Bound.of(16, "NONE: no LAND");
        land.refusedBy("may", Bound::noLand, NONE, (x, v) -> x.may(v), 0, 1);
        Bound day = Bound.of(16, "no such day");
        day.refusedBy("may", Bound::rich, NONE, (x, v) -> x.may(v), -1, 4, 9);
        day.refusedBy("may of six days", Bound::big, NONE, (x, v) -> x.may(v), -1, 7);
        Bound.of(16, "MAY, as bits.").due("day 6 of six", eight(Bound.BIG, "a").may(6), 255);
    }

    private static void most() {
        Bound b = Bound.of(17, "MOST: how many (0), which (1).");
        b.due("all of eight", eight(Bound.LAND, "!a").most(0, 0), 8);
        b.due("they", eight(Bound.LAND, "!a").most(0, 1), 255);
        for (int what = 0; what < 2; what++) {
            b.due("none of eight", eight(Bound.LAND, "a").most(0, what), 0);
            b.due("no oaths", Bound.noOaths().most(3, what), 0);
        }
        Bound least = Bound.term(17, "the most of them that HOLD together in one such LIFE (of several sets the least bits)");
        least.due("one of two", Check.made("t2;e", "a", "!a").most(2, 0), 1);
        least.due("the first", Check.made("t2;e", "a", "!a").most(2, 1), 1);
        least.due("the first, in the last lives", Bound.big("!a", "a").most(6, 1), 1);
        least.due("the first, in the first lives", Bound.big("a", "!a").most(6, 1), 1);
        least.due("two of three", Check.made("t2;e;e", "a", "!a", "b").most(2, 1), 5);
        least.due("more ahead of less bits", Check.made("t2;e;e", "!a&!b", "a", "b").most(2, 1), 6);
        Bound none = Bound.of(17, "NONE: no LIFE FITS");
        Bound land = Bound.of(17, "no LAND");
        for (int part = 0; part < 2; part++) {
            int what = part;
            none.refused("sworn ones", Bound::noFit, NONE, x -> x.most(3, what));
            none.refused("facts", Bound::noLife, NONE, x -> x.most(0, what));
            land.refused("most", Bound::noLand, NONE, x -> x.most(0, what));
        }
        Bound no = Bound.of(17, "no such ones");
        no.refusedBy("day", Bound::rich, NONE, (x, v) -> x.most(v, 0), -1, 4, 9);
        no.refusedBy("what", Bound::rich, NONE, (x, v) -> x.most(3, v), -1, 2, 3);
    }

    private static void hinders() {
        Bound b = Bound.term(18, "HINDERS: pairs of OATHS each of which MAY, but not both together: how many.");
        String[] apart = {"a0", "!a0&a1", "!a1&a2", "!a2&a3", "!a3&a4", "!a4&a5", "!a&b", "!a&!b"};
        OathYesterday x = Check.made("t6;e;e", apart);
        b.due("all pairs of eight", x.hinders(6), 28);
        b.due("on day 0 one may", x.hinders(0), 0);
        x.fact(0, 0, true);
        b.due("one may by a fact", x.hinders(6), 0);
        b.due("six with the last", Check.made("t2;e", "a", "a", "a", "a", "a", "a", "b", "!a").hinders(2), 6);
        b.due("none of eight", eight("t2;e", "a").hinders(2), 0);
        b.due("one that can't be hinders none", Check.made("t2;e", "a&!a", "a").hinders(2), 0);
        b.due("one oath", Check.made("t2;e", "a").hinders(2), 0);
        b.due("no oaths", Bound.noOaths().hinders(2), 0);
        b.due("none fits", Bound.noFit().hinders(3), 0);
        b.due("no life is possible", Bound.noLife().hinders(3), 0);
        Bound.of(18, "NONE: no LAND").refusedBy("hinders", Bound::noLand, NONE, (y, v) -> y.hinders(v), 0, 1);
        Bound.of(18, "no such day").refusedBy("hinders", Bound::rich, NONE, (y, v) -> y.hinders(v), -1, 4, 9);
    }

    private static void must() {
        Bound b = Bound.term(19, "MUST: OATHS that HOLD on that day in all LIVES that FIT (bits; none FIT: all).");
        b.due("all of eight", eight(Bound.LAND, "a|!a").must(3), 255);
        b.due("none of eight", eight(Bound.LAND, "a").must(3), 0);
        b.due("day 0", Bound.six().must(0), 8);
        b.due("the last day", Bound.rich().must(3), 1 | 2 | 16 | 32);
        b.due("all but the last life", Bound.big("a|b|c|d|e").must(6), 0);
        b.due("none fits", Bound.noFit().must(3), 63);
        b.due("no life is possible", Bound.noLife().must(0), 63);
        OathYesterday x = eight("t2;e", "a&!a");
        x.swear(0, 0, 0, 0);
        b.due("none fits, eight that never hold", x.must(2), 255);
        OathYesterday y = Bound.noOaths();
        b.due("no oaths", y.must(3), 0);
        y.fact(1, 0, true);
        b.due("no oaths, and none fits", y.must(3), 0);
        Bound.of(19, "MUST, as bits.").due("of a land of one life", lonely().must(2), 1);
        Bound.of(19, "NONE: no LAND").refusedBy("must", Bound::noLand, NONE, (z, v) -> z.must(v), 0, 1);
        Bound.of(19, "no such day").refusedBy("must", Bound::rich, NONE, (z, v) -> z.must(v), -1, 4, 9);
    }

    private static OathYesterday lonely() {
        OathYesterday x = Check.made("t2;e", "a", "!a");
        x.fact(0, 1, true);
        return x;
    }

    // ---- care

    private static void care() {
        Bound parts = Bound.of(20, "CARE: how many (0), the LIFE (1), KEPT OPEN as bits (2; 0: none).");
        OathYesterday x = Bound.big("a&b&c&d&e", "!a", "e", "!(a|b|c|d|e)");
        int[][] want = {{0, 6, 5, 0, 0}, {1, 0, 0, 0, 31}, {2, 6, 1, 99990, 15}, {3, 6, 0, 99999, 31}};
        for (int[] w : want) {
            for (int what = 0; what < 3; what++) {
                parts.due("care(" + w[0] + ", " + w[1] + ", " + what + ")", x.care(w[0], w[1], what), w[2 + what]);
            }
        }
        Bound fewest = Bound.term(20, "the one with the fewest DEEDS done as SEEN on that day (of several the least number): "
                + "how many; the LIFE");
        OathYesterday y = Check.made(Bound.LAND, "a", "!a", "a|b", "a<b", "b");
        int[][] least = {{0, 3, 1, 9}, {0, 1, 1, 1}, {1, 0, 0, 1}, {1, 3, 0, 99}, {2, 3, 1, 9}, {2, 2, 1, 2}, {3, 3, 2, 1},
            {4, 3, 1, 91}, {4, 2, 1, 21}};
        for (int[] w : least) {
            fewest.due("how many for " + w[0] + " on day " + w[1], y.care(w[0], w[1], 0), w[2]);
            fewest.due("the life for " + w[0] + " on day " + w[1], y.care(w[0], w[1], 1), w[3]);
        }
        Bound open = Bound.term(20, "KEPT OPEN: DEEDS (bits) that are never done in some LIFE that FITS and in which it HOLDS.");
        int[][] kept = {{0, 3, 2}, {1, 0, 3}, {1, 3, 3}, {2, 3, 3}, {3, 3, 0}, {4, 3, 1}};
        for (int[] w : kept) {
            open.due("open for " + w[0] + " on day " + w[1], y.care(w[0], w[1], 2), w[2]);
        }
        y.swear(0, 4, 3, 0);
        open.due("b is sworn", y.care(1, 0, 2), 1);
        y.fact(0, 9, false);
        open.due("a is done", y.care(1, 0, 2), 0);
    }

    private static void careRefused() {
        Bound cant = Bound.of(20, "NONE: it can't HOLD");
        Bound no = Bound.of(20, "no such ones");
        for (int part = 0; part < 3; part++) {
            int what = part;
            cant.refused("a on day 0, " + what, Bound::six, NONE, x -> x.care(0, 0, what));
            cant.refused("none fits, " + what, Bound::noFit, NONE, x -> x.care(3, 0, what));
            cant.refused("no life is possible, " + what, Bound::noLife, NONE, x -> x.care(3, 0, what));
            no.refused("no land, " + what, Bound::noLand, NONE, x -> x.care(0, 0, what));
            no.refused("no oaths, " + what, Bound::noOaths, NONE, x -> x.care(0, 0, what));
        }
        no.refusedBy("oath", Bound::six, NONE, (x, v) -> x.care(v, 3, 0), -1, 6, 7, 8, 9);
        no.refusedBy("day", Bound::six, NONE, (x, v) -> x.care(3, v, 1), -1, 4, 9);
        no.refusedBy("what", Bound::six, NONE, (x, v) -> x.care(3, 0, v), -1, 3, 4);
    }

    // ---- perjured, guilt, blame, worth

    private static void perjured() {
        Bound parts = Bound.of(21, "PERJURED: the COST (0), the LIFE (1), which (2).");
        int[] nothing = {0, 1, 0};
        int[] all = {990, 1, 1023};
        for (int what = 0; what < 3; what++) {
            parts.due("nothing is sworn, " + what, Bound.six().perjured(what), nothing[what]);
            parts.due("ten are broken, " + what, sworn(10, 0, 0, 99).perjured(what), all[what]);
        }
        OathYesterday last = Bound.big("!(a|b|c|d|e)");
        last.swear(0, 0, 6, 1);
        parts.due("the last life", last.perjured(1), 99999);
        parts.due("for nothing", last.perjured(0), 0);
        Bound least = Bound.term(21, "has the least COST together (of several the least number): the COST, the LIFE, which "
                + "(bits of SWORN)");
        OathYesterday told = sworn(1, 0, 0, 5);
        told.fact(1, 2, true);
        least.due("broken in the least life that is possible", told.perjured(1), 2);
        OathYesterday far = Bound.big("!(a|b|c|d|e)", "e", "a0&b0&c0&d0&e0");
        far.swear(0, 0, 6, 9);
        far.swear(0, 1, 6, 3);
        far.swear(0, 2, 6, 4);
        least.due("the cost in the last life", far.perjured(0), 7);
        least.due("the last life", far.perjured(1), 99999);
        least.due("broken in the last life", far.perjured(2), 6);
        OathYesterday even = sworn(1, 3, 3, 5);
        even.swear(0, 0, 3, 5);
        int[] want = {5, 1, 1};
        OathYesterday free = sworn(1, 0, 3, 0);
        free.swear(0, 3, 3, 0);
        int[] freely = {0, 1, 2};
        OathYesterday tenth = sworn(9, 3, 0, 99);
        tenth.swear(0, 0, 0, 1);
        int[] one = {1, 1, 512};
        OathYesterday dear = sworn(1, 0, 3, 4);
        dear.swear(0, 3, 3, 5);
        int[] cheap = {4, 91, 1};
        for (int what = 0; what < 3; what++) {
            least.due("of two costs alike, " + what, even.perjured(what), want[what]);
            least.due("a cost of 0 is broken, too, " + what, free.perjured(what), freely[what]);
            least.due("the tenth, " + what, tenth.perjured(what), one[what]);
            least.due("4 is less than 5, " + what, dear.perjured(what), cheap[what]);
        }
        Bound none = Bound.of(21, "NONE: no LIFE is POSSIBLE");
        Bound land = Bound.of(21, "no LAND");
        none.refusedBy("what", Bound::noLife, NONE, (x, v) -> x.perjured(v), 0, 1, 2);
        land.refusedBy("what", Bound::noLand, NONE, (x, v) -> x.perjured(v), 0, 1, 2);
        Bound.of(21, "no such what").refusedBy("what", Bound::rich, NONE, (x, v) -> x.perjured(v), -1, 3, 4);
    }

    private static void guilt() {
        Bound b = Bound.of(22, "How many of these are a PERSON's.");
        OathYesterday x = sworn(10, 0, 0, 0);
        b.due("ten", x.guilt(5), 10);
        b.due("of another one", x.guilt(0), 0);
        OathYesterday y = Bound.six();
        for (int i = 0; i < 6; i++) {
            y.swear(i, 0, 0, 9);
        }
        for (int person = 0; person < 6; person++) {
            b.due("one of each", y.guilt(person), 1);
            b.due("nothing is sworn", Bound.six().guilt(person), 0);
            b.due("nothing is broken", Bound.tenSworn().guilt(person), 0);
        }
        Bound none = Bound.of(22, "NONE likewise");
        none.refusedBy("no life is possible", Bound::noLife, NONE, (z, v) -> z.guilt(v), 0, 5);
        none.refusedBy("no land", Bound::noLand, NONE, (z, v) -> z.guilt(v), 0, 5);
        Bound.of(22, "no such one").refusedBy("person", Bound::rich, NONE, (z, v) -> z.guilt(v), -1, 6, 7);
    }

    private static void blame() {
        Bound parts = Bound.of(23, "BLAME: the PERSON (0), the COST then (1).");
        parts.due("the last person", sworn(10, 0, 0, 99).blame(0), 5);
        parts.due("nothing is left", sworn(10, 0, 0, 99).blame(1), 0);
        OathYesterday x = sworn(9, 0, 0, 99);
        x.swear(0, 0, 0, 1);
        parts.due("not the first person", x.blame(0), 5);
        parts.due("1 is left", x.blame(1), 1);
        parts.due("nothing is sworn", Bound.six().blame(0), 0);
        parts.due("nothing is sworn (cost)", Bound.six().blame(1), 0);
        Bound least = Bound.term(23, "the PERSON (0 .. 5) without the COST of whose SWORN ones that COST would be least (# of "
                + "them is there still; of several the lowest); how much it is then");
        OathYesterday even = Bound.six();
        even.swear(4, 0, 0, 50);
        even.swear(2, 0, 0, 50);
        least.due("of several the lowest", even.blame(0), 2);
        least.due("the other's cost", even.blame(1), 50);
        OathYesterday named = Check.made(Bound.LAND, "c", "!#0");
        named.swear(4, 0, 0, 9);
        named.swear(2, 1, 0, 50);
        least.due("# is there still", named.blame(0), 2);
        least.due("what is left", named.blame(1), 9);
        OathYesterday other = sworn(1, 0, 3, 4);
        other.swear(1, 3, 3, 6);
        least.due("another life costs nothing then", other.blame(1), 0);
        least.due("of both the lower one", other.blame(0), 1);
        OathYesterday first = firstAlone();
        first.swear(5, 3, 3, 9);
        least.due("in the first life alone", first.blame(0), 5);
        least.due("nothing is left of 9", first.blame(1), 0);
        Bound none = Bound.of(23, "NONE likewise.");
        none.refusedBy("no life is possible", Bound::noLife, NONE, (z, v) -> z.blame(v), 0, 1);
        none.refusedBy("no land", Bound::noLand, NONE, (z, v) -> z.blame(v), 0, 1);
        none.refusedBy("what", Bound::rich, NONE, (z, v) -> z.blame(v), -1, 2, 3);
    }

    private static void worth() {
        Bound zero = Bound.term(24, "(may be below 0; WORTH is 0, if no LIFE is POSSIBLE with it)");
        zero.due("the least", sworn(10, 0, 3, 99).worth(5, 0, 9, true), -990);
        zero.due("nothing changes", sworn(10, 0, 3, 99).worth(5, 0, 9, false), 0);
        zero.due("broken already", sworn(10, 0, 0, 99).worth(5, 0, 9, true), 0);
        zero.due("no life with it", sworn(10, 0, 3, 99).worth(5, 1, 0, true), 0);
        OathYesterday x = sworn(10, 0, 3, 99);
        x.fact(0, 9, false);
        zero.due("no life with it, by another fact", x.worth(5, 0, 9, true), 0);
        zero.due("a life with it", x.worth(5, 0, 0, true), 0);
        zero.due("of the first person", sworn(1, 0, 3, 7).worth(0, 0, 9, true), 0);
        zero.due("of the last person", sworn(1, 0, 3, 7).worth(5, 0, 9, true), -7);
        Bound own = Bound.term(24, "PERJURED's COST of its own SWORN ones alone (no others there, for # neither)");
        OathYesterday y = Check.made(Bound.LAND, "#1&a", "a");
        y.swear(3, 0, 3, 8);
        y.swear(2, 1, 3, 1);
        own.due("# of another one is not there", y.worth(3, 0, 9, true), 0);
        own.due("the other one alone", y.worth(2, 0, 9, true), -1);
        OathYesterday z = Check.made(Bound.LAND, "#1&a", "a");
        z.swear(3, 0, 3, 8);
        z.swear(3, 1, 3, 1);
        own.due("# of its own is there", z.worth(3, 0, 9, true), -9);
        own.due("who swore nothing", z.worth(0, 0, 9, true), 0);
        OathYesterday first = firstAlone();
        first.swear(5, 3, 3, 9);
        first.swear(4, 0, 3, 7);
        own.due("others cost nothing in the first life alone", first.worth(4, 0, 0, true), 0);
        own.due("nor where another fact is so", first.worth(4, 0, 1, false), 0);
        Bound told = Bound.term(24, "WORTH of a FACT (not told yet) to a PERSON");
        OathYesterday rich = Bound.rich();
        // b is done on day 2, or never: without it the 6 of b are lost, in a life that 20 is not.
        told.due("b never", rich.worth(2, 1, 9, true), -6);
        told.due("b never, to the other one", rich.worth(0, 1, 9, true), 0);
        told.due("it is not told then", Bound.look(rich).equals(Bound.look(Bound.rich())), true);
    }

    private static void worthRefused() {
        Bound no = Bound.of(24, "HIDDEN: no such ones");
        for (boolean is : new boolean[] {true, false}) {
            no.refusedBy("person", Bound::rich, HIDDEN, (x, v) -> x.worth(v, 0, 0, is), -1, 6, 7);
            no.refusedBy("deed", Bound::rich, HIDDEN, (x, v) -> x.worth(0, v, 1, is), -1, 2, 5);
            no.refusedBy("day", Bound::rich, HIDDEN, (x, v) -> x.worth(0, 0, v, is), -1, 3, 6, 8, 10);
            no.refusedBy("day of six", Bound::big, HIDDEN, (x, v) -> x.worth(0, 4, v, is), -1, 6, 7, 8, 10);
            no.refusedBy("no land, day", Bound::noLand, HIDDEN, (x, v) -> x.worth(0, 0, v, is), 0, 9);
        }
        Bound none = Bound.of(24, "no LIFE is POSSIBLE without it");
        none.refusedBy("day", Bound::noLife, HIDDEN, (x, v) -> x.worth(1, 0, v, true), 0, 1, 2, 9);
        none.refusedBy("day, not", Bound::noLife, HIDDEN, (x, v) -> x.worth(1, 0, v, false), 0, 1, 2, 9);
        none.due("the first and the last day", Bound.six().worth(0, 0, 2, true) + Bound.six().worth(5, 0, 0, true), 0);
    }
}
