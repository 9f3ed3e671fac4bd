/**
 * One test for each promise, with answers worked out by hand. The land of most of them has two
 * deeds: a by person 0 on days 0 .. 2, b by person 1 on days 1 .. 2; its twelve lives are
 * 1 2 9 11 12 19 21 22 29 91 92 99.
 */
final class PromiseTest {
    private static final String LAND = "t3;ep0;ep1f1";
    private static final int[] LIVES = {1, 2, 9, 11, 12, 19, 21, 22, 29, 91, 92, 99};
    private static final int NONE = OathYesterday.NONE;
    private static final int HIDDEN = OathYesterday.HIDDEN;

    private PromiseTest() {
    }

    static void run() {
        newObject();
        feed();
        end();
        text();
        textOfAnotherLand();
        deed();
        swear();
        fact();
        undo();
        lives();
        holds();
        holdsByParts();
        when();
        breaksAndClash();
        mayAndMust();
        mostAndHinders();
        care();
        perjured();
        blame();
        worth();
        weighAndOdds();
        questionAndSettled();
        rings();
        fall();
        stakeDuelBait();
        plan();
        impliesAndSame();
        daysOfAnOath();
        near();
        alibiAndHands();
        meanAndLikeliest();
        drawn();
        busy();
        rows();
        imageAndBack();
        count();
        nothingFits();
        largest();
    }

    private static void due(String call, long got, long want) {
        Check.due(call, got, want);
    }

    private static void due(String call, boolean got, boolean want) {
        Check.due(call, got, want);
    }

    private static OathYesterday six() {
        return Check.made(LAND, "a", "b", "a<b", "!a", "a0|b2", "#0");
    }

    /** All that can be asked without a change, told in one text. */
    static String look(OathYesterday x) {
        StringBuilder s = new StringBuilder();
        for (int what = 0; what < 7; what++) {
            s.append(x.count(what)).append(' ');
        }
        s.append(x.fault(0)).append(' ').append(x.fault(1)).append(' ');
        for (int i = 0; i < 10; i++) {
            for (int what = 0; what < 4; what++) {
                s.append(x.sworn(i, what)).append(' ').append(Check.deed(x, i, what)).append(' ');
            }
            s.append(x.days(i)).append(' ').append(x.duel(i, i, NONE)).append(' ');
            s.append(x.bait(i, i)).append(' ').append(x.odds(i, 2, 0)).append(' ');
        }
        for (int i = NONE; i < 30; i++) {
            s.append(x.lives(false, i)).append(' ').append(x.lives(true, i)).append(' ');
        }
        s.append(x.mean(0)).append(' ').append(x.mean(1)).append(' ').append(x.likeliest());
        return s.toString();
    }

    private static void newObject() {
        OathYesterday x = new OathYesterday();
        due("NONE", OathYesterday.NONE, -1);
        due("HIDDEN", OathYesterday.HIDDEN, -1000000);
        for (int what = 0; what < 7; what++) {
            due("count(" + what + ") of a new object", x.count(what), 0);
        }
        long[] answers = {x.lives(false, NONE), x.lives(true, 0), x.holds(0, 0, 0), x.when(0), x.breaks(),
            x.clash(), x.may(0), x.most(0, 0), x.hinders(0), x.must(0), x.care(0, 0, 0), x.perjured(0),
            x.guilt(0), x.blame(0), x.odds(0, 0, 0), x.question(0), x.settled(0, 0), x.rings(0, NONE),
            x.fall(0), x.duel(0, 0, NONE), x.bait(0, 0), x.plan(0, 0, 0), x.implies(0, 0, 0), x.same(0, 0),
            x.days(0), x.near(0, 0), x.alibi(0, 0), x.hands(), x.mean(0), x.likeliest(), x.drawn(0L),
            x.busy(0), x.rows(0, 1, 0), x.image(), x.back(), x.undo(), x.swear(0, 0, 0, 0), x.sworn(0, 0),
            x.fact(0, 0, true), x.text(0), x.text(1)};
        for (int i = 0; i < answers.length; i++) {
            due("answer " + i + " of a new object", answers[i], NONE);
        }
        due("worth of a new object", x.worth(0, 0, 0, true), HIDDEN);
        due("weigh of a new object", x.weigh(0, 0, 1), false);
        due("stake of a new object", x.stake(0, 1), false);
        due("an oath without a land", Check.oath(x, "a"), 0);
        due("stake without a land", x.stake(0, 1), true);
        due("swear without a land", x.swear(0, 0, 0, 0), NONE);
        due("may without a land", x.may(0), NONE);
        due("days without a land", x.days(0), NONE);
        due("holds without a land", x.holds(0, 0, 0), NONE);
        due("settled without a land", x.settled(0, 0), NONE);
        due("same without a land", x.same(0, 0), NONE);
        due("duel without a land", x.duel(0, 0, NONE), NONE);
    }

    private static void feed() {
        OathYesterday x = new OathYesterday();
        due("feed of zeros", x.feed(0, 0, 0, 0, 0), 0);
        due("feed of t3;e", x.feed(0x74000033, 0, 0x003b0000, 0, 0x00000065), 4);
        due("the order of bytes", x.text(0), 1);
        due("the tape is empty then", x.count(3), 0);
        due("bytes above 127", x.feed(-1, 0x80000000, 0, 0, 0x000000ff), 6);
        due("end(0)", x.end(0), true);
        for (int i = 1; i <= 5; i++) {
            due("20 bytes", x.feed(0x20202020, 0x20202020, 0x20202020, 0x20202020, 0x20202020), 20 * i);
        }
        due("119 bytes", x.feed(0x20202020, 0x20202020, 0x20202020, 0x20202020, 0x20202000), 119);
        due("two too many", x.feed(0x61000000, 0, 0, 0, 0x61), NONE);
        due("nothing came", x.count(3), 119);
        due("nothing is fine", x.feed(0, 0, 0, 0, 0), 119);
        due("the 120th", x.feed(0, 0, 0x00006100, 0, 0), 120);
        due("the 121st", x.feed(0, 0, 0, 0, 1), NONE);
        due("in the second number", x.feed(0, 1, 0, 0, 0), NONE);
        due("in the third number", x.feed(0, 0, 1, 0, 0), NONE);
        due("in the fourth number", x.feed(0, 0, 0, 1, 0), NONE);
        due("the highest byte of the first", x.feed(0x80000000, 0, 0, 0, 0), NONE);
        due("still none more", x.feed(0, 0, 0, 0, 0), 120);
        due("fault of the full tape", x.fault(1), NONE);
        due("as a land", x.fault(0), 119);
        due("text of the full tape", x.text(1), 0);
    }

    private static void end() {
        OathYesterday x = new OathYesterday();
        due("end(0) of none", x.end(0), true);
        due("end(1) of none", x.end(1), false);
        Check.tape(x, "t3;exyz");
        due("end(-1)", x.end(-1), false);
        due("end(8)", x.end(8), false);
        due("end(min)", x.end(Integer.MIN_VALUE), false);
        due("end(max)", x.end(Integer.MAX_VALUE), false);
        due("refused", x.count(3), 7);
        due("end(7)", x.end(7), true);
        due("all are there", x.fault(0), 4);
        due("end(4)", x.end(4), true);
        due("the first four", x.count(3), 4);
        due("they are the land", x.fault(0), NONE);
        due("more behind them", x.feed(0x70350000, 0, 0, 0, 0), 6);
        due("text", x.text(0), 1);
        due("its doer", Check.deed(x, 0, 0), 5);
        Check.tape(x, "abc");
        due("end(0)", x.end(0), true);
        due("nothing", x.count(3), 0);
    }

    private static void text() {
        OathYesterday x = new OathYesterday();
        Check.tape(x, "t3;e");
        String ahead = look(x);
        due("text(2)", x.text(2), NONE);
        due("text(-1)", x.text(-1), NONE);
        due("a land as an oath", x.text(1), NONE);
        due("refused texts change nothing", look(x).equals(ahead), true);
        due("text(0)", x.text(0), 1);
        due("tape of text(0)", x.count(3), 0);
        for (int i = 0; i < 8; i++) {
            due("oath " + i, Check.oath(x, "a" + i % 6), i);
            due("tape of text(1)", x.count(3), 0);
        }
        Check.tape(x, "a");
        due("the ninth has no fault", x.fault(1), NONE);
        ahead = look(x);
        due("the ninth", x.text(1), NONE);
        due("the ninth changes nothing", look(x).equals(ahead), true);
        due("eight", x.count(2), 8);
        Check.tape(x, "a|");
        due("the ninth's fault", x.fault(1), 2);
        for (int i = 0; i < 6; i++) {
            due("oath " + i + " stays", x.holds(i, 3, 2), i < 2 ? 0 : 1);
        }
        Check.tape(x, "t4;e;e;x");
        ahead = look(x);
        due("a faulty land", x.text(0), NONE);
        due("a faulty land changes nothing", look(x).equals(ahead), true);
        OathYesterday y = new OathYesterday();
        Check.tape(y, "a&");
        due("a faulty oath", y.text(1), NONE);
        due("its tape", y.count(3), 2);
        due("no oath", y.count(2), 0);
        due("a new one instead", Check.oath(y, "b"), 0);
    }

    private static void textOfAnotherLand() {
        OathYesterday x = six();
        x.swear(0, 0, 1, 5);
        x.fact(0, 0, true);
        x.weigh(0, 0, 7);
        x.stake(0, 44);
        due("image", x.image(), 2);
        due("another land", Check.land(x, "t2;e;e;e"), 3);
        due("deeds", x.count(0), 3);
        due("days", x.count(1), 2);
        due("oaths stay", x.count(2), 6);
        due("sworn ones are gone", x.count(4), 0);
        due("facts are gone", x.count(5), 0);
        due("acts are gone", x.count(6), 0);
        due("undo", x.undo(), NONE);
        due("the image is gone", x.back(), NONE);
        due("lives", x.lives(true, NONE), 27);
        due("weights are 1", x.odds(0, 2, 0), 2);
        due("weights are 1 (below)", x.odds(0, 2, 1), 3);
        due("gains stay", x.bait(2, 1), 0);
        due("a rest by the gain", x.duel(2, 1, 0), 0);
        x.swear(0, 0, 1, 5);
        x.image();
        Check.tape(x, "t2;e;e;e;");
        due("a faulty land", x.text(0), NONE);
        due("the image stays", x.back(), 1);
        due("the same land told again", Check.land(x, "t2;e;e;e"), 3);
        due("is another one: its image", x.back(), NONE);
        due("its sworn ones", x.count(4), 0);
    }

    private static void deed() {
        OathYesterday x = Check.made("t6;e;ep5f2l4;el3;ef5p1;el0p2");
        int[][] want = {{0, 0, 5}, {5, 2, 4}, {0, 0, 3}, {1, 5, 5}, {2, 0, 0}};
        for (int deed = 0; deed < 5; deed++) {
            for (int what = 0; what < 3; what++) {
                due("deed(" + deed + ", " + what + ")", Check.deed(x, deed, what), want[deed][what]);
            }
        }
        int[][] wrong = {{5, 0}, {-1, 0}, {0, 3}, {0, -1}, {Integer.MAX_VALUE, 0}, {Integer.MIN_VALUE, 1},
            {0, Integer.MAX_VALUE}, {1, Integer.MIN_VALUE}};
        for (int[] w : wrong) {
            due("deed(" + w[0] + ", " + w[1] + ")", Check.deed(x, w[0], w[1]), -9);
        }
        Check.land(x, "t2;e");
        due("deed 1 of one", Check.deed(x, 1, 0), -9);
        due("its last day", Check.deed(x, 0, 2), 1);
        due("no land", Check.deed(new OathYesterday(), 0, 0), -9);
    }

    private static void swear() {
        OathYesterday x = six();
        String ahead = look(x);
        int[][] wrong = {{-1, 0, 0, 0}, {6, 0, 0, 0}, {0, -1, 0, 0}, {0, 6, 0, 0}, {0, 0, -1, 0}, {0, 0, 4, 0},
            {0, 0, 9, 0}, {0, 0, 0, -1}, {0, 0, 0, 100}};
        for (int[] w : wrong) {
            due("swear " + java.util.Arrays.toString(w), x.swear(w[0], w[1], w[2], w[3]), NONE);
        }
        due("refused ones change nothing", look(x).equals(ahead), true);
        due("swear", x.swear(5, 4, 3, 99), 1);
        due("swear", x.swear(0, 3, 0, 0), 2);
        int[][] want = {{5, 4, 3, 99}, {0, 3, 0, 0}};
        for (int i = 0; i < 2; i++) {
            for (int what = 0; what < 4; what++) {
                due("sworn(" + i + ", " + what + ")", x.sworn(i, what), want[i][what]);
            }
        }
        int[][] no = {{2, 0}, {-1, 0}, {0, 4}, {0, -1}, {10, 0}, {Integer.MAX_VALUE, 3}};
        for (int[] w : no) {
            due("sworn(" + w[0] + ", " + w[1] + ")", x.sworn(w[0], w[1]), NONE);
        }
        for (int i = 3; i <= 10; i++) {
            due("swear", x.swear(1, 3, 0, i), i);
        }
        due("the eleventh", x.swear(1, 3, 0, 1), NONE);
        due("ten", x.count(4), 10);
        due("the tenth's cost", x.sworn(9, 3), 10);
        due("undo", x.undo(), 9);
        due("sworn of an undone one", x.sworn(9, 3), NONE);
        due("the tenth again", x.swear(2, 3, 0, 1), 10);
        due("its person", x.sworn(9, 0), 2);
    }

    private static void fact() {
        OathYesterday x = six();
        String ahead = look(x);
        int[][] wrong = {{-1, 0}, {2, 0}, {0, -1}, {0, 3}, {0, 8}, {0, 10}, {5, 9}, {Integer.MAX_VALUE, 9}};
        for (int[] w : wrong) {
            due("fact(" + w[0] + ", " + w[1] + ")", x.fact(w[0], w[1], true), NONE);
        }
        due("refused ones change nothing", look(x).equals(ahead), true);
        due("b was not done on day 1", x.fact(1, 1, false), 1);
        due("lives", x.lives(false, NONE), 8);
        due("b is done", x.fact(1, 9, false), 2);
        due("lives", x.lives(false, NONE), 4);
        due("the first", x.lives(false, 0), 2);
        due("a is never done", x.fact(0, 9, true), 3);
        due("one life", x.lives(false, NONE), 1);
        due("it", x.lives(false, 0), 92);
        due("a was done on day 2", x.fact(0, 2, true), 4);
        due("none", x.lives(false, NONE), 0);
        for (int i = 5; i <= 20; i++) {
            due("fact", x.fact(0, 2, true), i);
        }
        due("the 21st", x.fact(0, 2, true), NONE);
        due("twenty", x.count(5), 20);
        due("undo", x.undo(), 19);
        due("the 20th", x.fact(0, 2, true), 20);
        due("swearing goes on", x.swear(0, 0, 0, 0), 1);
        OathYesterday y = six();
        due("a day on which b can't be done", y.fact(1, 0, true), 1);
        due("no life", y.lives(false, NONE), 0);
        due("and it was not", y.undo(), 0);
        due("fact", y.fact(1, 0, false), 1);
        due("all lives", y.lives(false, NONE), 12);
    }

    private static void undo() {
        OathYesterday x = six();
        due("nothing to undo", x.undo(), NONE);
        x.swear(0, 0, 1, 5);
        x.fact(1, 1, true);
        x.swear(1, 1, 2, 6);
        x.fact(1, 2, false);
        x.weigh(0, 0, 5);
        due("acts", x.count(6), 4);
        due("undo the fact", x.undo(), 3);
        due("facts", x.count(5), 1);
        due("undo the sworn one", x.undo(), 2);
        due("sworn", x.count(4), 1);
        due("facts", x.count(5), 1);
        due("undo the fact", x.undo(), 1);
        due("lives", x.lives(false, NONE), 12);
        due("fit", x.lives(true, NONE), 3);
        due("undo the first", x.undo(), 0);
        due("fit", x.lives(true, NONE), 12);
        due("no more", x.undo(), NONE);
        due("weights stay", x.odds(0, 1, 0), 5);
        due("weights stay (below)", x.odds(0, 1, 1), 8);
    }

    private static void lives() {
        OathYesterday x = six();
        due("lives", x.lives(false, NONE), 12);
        for (int i = 0; i < 12; i++) {
            due("lives(false, " + i + ")", x.lives(false, i), LIVES[i]);
            due("lives(true, " + i + ")", x.lives(true, i), LIVES[i]);
        }
        int[] wrong = {12, -2, Integer.MIN_VALUE, Integer.MAX_VALUE, 63, 64};
        for (int i : wrong) {
            due("lives(false, " + i + ")", x.lives(false, i), NONE);
        }
        x.fact(0, 0, true);
        x.swear(0, 1, 2, 1);
        due("possible", x.lives(false, NONE), 3);
        due("fit", x.lives(true, NONE), 1);
        due("the first", x.lives(true, 0), 1);
        due("no second", x.lives(true, 1), NONE);
        due("possible", x.lives(false, 2), 9);
    }

    private static void holds() {
        OathYesterday x = Check.made(LAND, "a", "a1", "a<b", "a=b", "#0", "c", "a5", "b0");
        int[][] want = {{0, 0, 1, 0}, {0, 1, 1, 1}, {0, 2, 21, 0}, {0, 3, 21, 1}, {0, 3, 91, 0},
            {1, 3, 1, 1}, {1, 3, 11, 1}, {1, 2, 11, 1}, {1, 1, 11, 0}, {1, 3, 21, 0}, {1, 3, 99, 0},
            {2, 3, 12, 1}, {2, 2, 12, 0}, {2, 2, 1, 1}, {2, 3, 11, 0}, {2, 3, 21, 0}, {2, 3, 19, 0}, {2, 3, 92, 0},
            {3, 2, 11, 1}, {3, 1, 11, 0}, {3, 3, 12, 0}, {3, 3, 99, 0}, {3, 3, 22, 1}, {3, 2, 22, 0},
            {4, 3, 1, 0}, {5, 3, 1, 0}, {6, 3, 21, 1}, {6, 2, 21, 0}, {6, 3, 91, 0}, {7, 3, 1, 0}};
        for (int[] w : want) {
            due("holds(" + w[0] + ", " + w[1] + ", " + w[2] + ")", x.holds(w[0], w[1], w[2]), w[3]);
        }
        int[][] wrong = {{-1, 0, 1}, {8, 0, 1}, {0, -1, 1}, {0, 4, 1}, {0, 9, 1}, {0, 0, 3}, {0, 0, 0}, {0, 0, 10},
            {0, 0, 31}, {0, 0, 100}, {0, 0, 101}, {0, 0, -1}, {0, 0, Integer.MAX_VALUE}, {0, 0, Integer.MIN_VALUE}};
        for (int[] w : wrong) {
            due("holds(" + w[0] + ", " + w[1] + ", " + w[2] + ")", x.holds(w[0], w[1], w[2]), NONE);
        }
        x.swear(0, 5, 0, 0);
        due("#0 is sworn", x.holds(4, 0, 1), 1);
        x.undo();
        due("#0 is undone", x.holds(4, 0, 1), 0);
        x.fact(0, 9, true);
        due("a life that is not possible", x.holds(0, 3, 1), 1);
    }

    /** What binds more, brackets, and deeds that there are not. */
    private static void holdsByParts() {
        OathYesterday x = Check.made(LAND, "a|b&c", "!a&b", "!(a&b)", "(a|b)&c", "!c", "c<a|a=c|c=c", "!!a",
                " ( a0 | b1 ) & ! ( a0 & b1 ) ");
        int[][] want = {{0, 19, 1}, {0, 91, 0}, {1, 19, 0}, {1, 91, 1}, {1, 11, 0}, {2, 19, 1}, {2, 11, 0},
            {3, 11, 0}, {4, 11, 1}, {5, 11, 0}, {6, 19, 1}, {6, 91, 0}, {7, 1, 0}, {7, 2, 1}, {7, 11, 1}, {7, 12, 0}};
        for (int[] w : want) {
            due("part " + w[0] + " in " + w[1], x.holds(w[0], 3, w[1]), w[2]);
        }
        OathYesterday y = Check.made("t2;e;e", "!#1", "#1|#9", "a=a", "a<a");
        y.swear(0, 2, 2, 0);
        due("#1 is not there", y.holds(1, 2, 99), 0);
        due("!#1", y.holds(0, 2, 99), 1);
        y.swear(0, 2, 2, 0);
        due("#1 is there", y.holds(1, 2, 99), 1);
        due("!#1 then", y.holds(0, 2, 99), 0);
        due("a=a", y.holds(2, 2, 19), 1);
        due("a=a not done", y.holds(2, 2, 91), 0);
        due("a<a", y.holds(3, 2, 11), 0);
    }

    private static void when() {
        OathYesterday x = six();
        due("when(0)", x.when(0), 519);
        due("when(1)", x.when(1), 518);
        due("when(2)", x.when(2), NONE);
        due("when(-1)", x.when(-1), NONE);
        x.swear(0, 2, 3, 1);
        due("when(0) by a<b", x.when(0), 3);
        due("when(1) by a<b", x.when(1), 6);
        x.fact(0, 9, true);
        due("when(0), none fits", x.when(0), 0);
    }

    private static void breaksAndClash() {
        OathYesterday x = Check.made(LAND, "a", "b", "!a", "a|b", "!b");
        due("nothing sworn", x.breaks(), NONE);
        due("nothing sworn", x.clash(), NONE);
        x.swear(0, 0, 1, 1);
        x.swear(0, 1, 3, 1);
        due("both hold", x.breaks(), NONE);
        x.swear(0, 2, 2, 1);
        due("the third", x.breaks(), 2);
        due("it with the first", x.clash(), 2);
        x.fact(0, 9, true);
        due("the first by a fact", x.breaks(), 0);
        due("it can't hold at all", x.clash(), NONE);
        x.fact(0, 0, true);
        due("no life", x.breaks(), 0);
        due("no life", x.clash(), NONE);
        OathYesterday y = Check.made(LAND, "a", "b", "!a", "a|b", "!b");
        y.swear(0, 3, 3, 1);
        y.swear(0, 2, 3, 1);
        y.swear(0, 4, 3, 1);
        due("three together", y.breaks(), 2);
        due("no two of them", y.clash(), NONE);
        y.swear(0, 0, 3, 1);
        due("clash", y.clash(), 13);
        OathYesterday z = Check.made(LAND, "a", "!a");
        z.swear(0, 0, 0, 1);
        z.swear(0, 1, 3, 1);
        due("day 0", z.breaks(), 0);
        due("it clashes with nothing", z.clash(), NONE);
        z.swear(0, 0, 3, 1);
        due("the later two do", z.clash(), 12);
        OathYesterday none = Check.made(LAND);
        none.fact(0, 0, true);
        none.fact(0, 1, true);
        due("nothing is sworn and no life", none.breaks(), NONE);
    }

    private static void mayAndMust() {
        OathYesterday x = six();
        due("may(0)", x.may(0), 8);
        due("may(1)", x.may(1), 25);
        due("may(3)", x.may(3), 31);
        due("must(3)", x.must(3), 0);
        due("must(0)", x.must(0), 8);
        due("must(1)", x.must(1), 0);
        x.swear(0, 2, 3, 1);
        due("may(3) by a<b", x.may(3), 55);
        due("must(3) by a<b", x.must(3), 55);
        due("must(0) by a<b", x.must(0), 40);
        int[] wrong = {-1, 4, 9, Integer.MAX_VALUE, Integer.MIN_VALUE};
        for (int day : wrong) {
            due("may", x.may(day), NONE);
            due("must", x.must(day), NONE);
            due("hinders", x.hinders(day), NONE);
            due("most", x.most(day, 0), NONE);
        }
        for (int i = 1; i < 10; i++) {
            x.swear(0, 2, 3, 1);
        }
        due("ten are sworn", x.may(3), 55);
        x.fact(0, 9, true);
        due("may(3), none fits", x.may(3), 0);
        due("must(3), none fits", x.must(3), 63);
        OathYesterday y = Check.made(LAND);
        due("no oaths", y.may(0), 0);
        due("no oaths", y.must(0), 0);
    }

    private static void mostAndHinders() {
        OathYesterday x = six();
        due("most(3, 0)", x.most(3, 0), 4);
        due("most(3, 1)", x.most(3, 1), 23);
        due("most(1, 0)", x.most(1, 0), 2);
        due("most(1, 1)", x.most(1, 1), 17);
        due("most(0, 1)", x.most(0, 1), 8);
        due("most(3, 2)", x.most(3, 2), NONE);
        due("most(3, -1)", x.most(3, -1), NONE);
        due("hinders(3)", x.hinders(3), 2);
        due("hinders(1)", x.hinders(1), 2);
        due("hinders(0)", x.hinders(0), 0);
        OathYesterday y = Check.made(LAND, "!a", "a", "b", "!b", "c");
        due("of several", y.most(3, 0), 2);
        due("the least bits", y.most(3, 1), 5);
        due("two pairs", y.hinders(3), 2);
        y.fact(0, 9, false);
        y.fact(0, 2, false);
        due("by a fact", y.most(3, 1), 6);
        due("one pair left", y.hinders(3), 1);
        y.fact(0, 9, true);
        due("none fits", y.most(3, 0), NONE);
        due("none fits", y.most(3, 1), NONE);
        due("none fits", y.hinders(3), 0);
        OathYesterday none = Check.made(LAND);
        due("no oaths", none.most(0, 0), 0);
        due("no oaths", none.most(0, 1), 0);
    }

    private static void care() {
        OathYesterday x = six();
        due("care(1, 3, 0)", x.care(1, 3, 0), 1);
        due("care(1, 3, 1)", x.care(1, 3, 1), 91);
        due("care(1, 3, 2)", x.care(1, 3, 2), 1);
        due("care(1, 2, 0)", x.care(1, 2, 0), 1);
        due("care(1, 2, 1)", x.care(1, 2, 1), 21);
        due("care(1, 2, 2)", x.care(1, 2, 2), 1);
        due("care(3, 0, 0)", x.care(3, 0, 0), 0);
        due("care(3, 0, 1)", x.care(3, 0, 1), 1);
        due("care(3, 0, 2)", x.care(3, 0, 2), 3);
        due("care(2, 3, 2)", x.care(2, 3, 2), 0);
        due("it can't hold", x.care(0, 0, 0), NONE);
        due("it can't hold", x.care(0, 0, 2), NONE);
        int[][] wrong = {{-1, 0, 0}, {6, 0, 0}, {3, -1, 0}, {3, 4, 0}, {3, 0, 3}, {3, 0, -1}};
        for (int[] w : wrong) {
            due("care " + java.util.Arrays.toString(w), x.care(w[0], w[1], w[2]), NONE);
        }
        x.swear(0, 0, 3, 1);
        due("by a sworn one", x.care(1, 3, 0), 2);
        due("the life", x.care(1, 3, 1), 1);
        due("none is open", x.care(1, 3, 2), 0);
        due("b is open", x.care(0, 3, 2), 2);
    }

    private static void perjured() {
        OathYesterday x = six();
        due("nothing is sworn", x.perjured(0), 0);
        due("the least life", x.perjured(1), 1);
        due("none is broken", x.perjured(2), 0);
        due("guilt of none", x.guilt(0), 0);
        x.swear(0, 0, 1, 5);
        x.swear(1, 3, 2, 7);
        x.swear(2, 1, 0, 3);
        due("perjured(0)", x.perjured(0), 8);
        due("perjured(1)", x.perjured(1), 21);
        due("perjured(2)", x.perjured(2), 5);
        due("guilt(0)", x.guilt(0), 1);
        due("guilt(1)", x.guilt(1), 0);
        due("guilt(2)", x.guilt(2), 1);
        due("guilt(5)", x.guilt(5), 0);
        int[] wrong = {-1, 6, 3, Integer.MAX_VALUE};
        for (int w : wrong) {
            due("perjured(" + w + ")", x.perjured(w), NONE);
        }
        due("guilt(6)", x.guilt(6), NONE);
        due("guilt(-1)", x.guilt(-1), NONE);
        x.swear(0, 1, 0, 0);
        due("one without a cost is broken, too", x.perjured(2), 13);
        due("it counts", x.guilt(0), 2);
        due("the cost", x.perjured(0), 8);
        x.fact(0, 0, true);
        due("by a fact", x.perjured(0), 10);
        due("by a fact", x.perjured(1), 1);
        due("by a fact", x.perjured(2), 14);
        x.fact(0, 9, true);
        due("no life", x.perjured(0), NONE);
        due("no life", x.perjured(1), NONE);
        due("no life", x.perjured(2), NONE);
        due("no life", x.guilt(0), NONE);
        due("no life", x.blame(0), NONE);
        due("no life", x.blame(1), NONE);
    }

    private static void blame() {
        OathYesterday x = six();
        due("nothing is sworn", x.blame(0), 0);
        due("nothing is sworn", x.blame(1), 0);
        x.swear(0, 0, 1, 5);
        x.swear(1, 3, 2, 7);
        x.swear(2, 1, 0, 3);
        due("of several the lowest", x.blame(0), 0);
        due("its cost", x.blame(1), 3);
        x.undo();
        x.swear(3, 1, 0, 30);
        due("the dearest", x.blame(0), 3);
        due("its cost", x.blame(1), 5);
        due("blame(2)", x.blame(2), NONE);
        due("blame(-1)", x.blame(-1), NONE);
        OathYesterday y = Check.made(LAND, "c", "#0", "!#0");
        y.swear(4, 0, 0, 9);
        y.swear(4, 2, 0, 9);
        y.swear(2, 1, 0, 50);
        due("# of them is there still", y.blame(0), 4);
        due("the third holds", y.blame(1), 0);
    }

    private static void worth() {
        OathYesterday x = Check.made(LAND, "a", "#0&a", "!a");
        x.swear(0, 0, 1, 5);
        x.swear(1, 1, 3, 4);
        due("never", x.worth(0, 0, 9, true), -5);
        due("done on day 1", x.worth(0, 0, 1, true), -5);
        due("done on day 0", x.worth(0, 0, 0, true), 0);
        due("not on day 0", x.worth(0, 0, 0, false), -5);
        due("the other deed", x.worth(0, 1, 1, true), 0);
        due("# of others is not there", x.worth(1, 0, 9, true), 0);
        due("who swore none", x.worth(2, 0, 9, true), 0);
        due("no life with it", x.worth(0, 1, 0, true), 0);
        int[][] wrong = {{-1, 0, 0}, {6, 0, 0}, {0, -1, 0}, {0, 2, 0}, {0, 0, 3}, {0, 0, -1}, {0, 0, 10}};
        for (int[] w : wrong) {
            due("worth " + java.util.Arrays.toString(w), x.worth(w[0], w[1], w[2], true), HIDDEN);
        }
        due("it is not told then", x.count(5), 0);
        x.fact(0, 9, true);
        due("cost already", x.worth(0, 1, 9, true), 0);
        due("no life with it", x.worth(0, 0, 0, true), 0);
        x.fact(0, 0, true);
        due("no life without it", x.worth(0, 0, 0, true), HIDDEN);
        OathYesterday y = Check.made(LAND, "#1&a", "a");
        y.swear(3, 0, 3, 8);
        y.swear(3, 1, 3, 1);
        due("# of its own is there", y.worth(3, 0, 9, true), -9);
    }

    private static void weighAndOdds() {
        OathYesterday x = six();
        int[][] wrong = {{-1, 0, 1}, {2, 0, 1}, {0, -1, 1}, {0, 3, 1}, {0, 8, 1}, {0, 10, 1}, {0, 0, -1}, {0, 0, 10}};
        for (int[] w : wrong) {
            due("weigh " + java.util.Arrays.toString(w), x.weigh(w[0], w[1], w[2]), false);
        }
        due("odds of a", x.odds(0, 3, 0), 3);
        due("odds of a (below)", x.odds(0, 3, 1), 4);
        due("of what can't be", x.odds(0, 0, 0), 0);
        due("of what can't be (below)", x.odds(0, 0, 1), 1);
        due("of what is sure", x.odds(3, 0, 0), 1);
        due("of what is sure (below)", x.odds(3, 0, 1), 1);
        due("a day on which b can't be done", x.weigh(1, 0, 9), true);
        due("it changes nothing", x.odds(1, 3, 0), 2);
        due("it changes nothing (below)", x.odds(1, 3, 1), 3);
        due("weigh", x.weigh(1, 9, 4), true);
        due("weighed", x.odds(1, 3, 0), 1);
        due("weighed (below)", x.odds(1, 3, 1), 3);
        x.weigh(0, 0, 9);
        x.weigh(1, 2, 7);
        due("a<b weighed", x.odds(2, 3, 0), 9 * 1 + 9 * 7 + 7);
        due("a<b weighed (below)", x.odds(2, 3, 1), 12 * 12);
        x.swear(0, 0, 1, 1);
        due("over what fits", x.odds(1, 2, 0), 1);
        due("over what fits (below)", x.odds(1, 2, 1), 12);
        x.weigh(0, 0, 0);
        due("all is 0", x.odds(1, 2, 0), NONE);
        due("all is 0 (below)", x.odds(1, 2, 1), NONE);
        due("no such part", x.odds(1, 2, 2), NONE);
        due("no such part", x.odds(1, 2, -1), NONE);
        due("no such oath", x.odds(6, 2, 0), NONE);
        due("no such day", x.odds(1, 4, 0), NONE);
        due("mean of 0", x.mean(0), NONE);
    }

    private static void questionAndSettled() {
        OathYesterday x = six();
        due("question(0)", x.question(0), 1);
        due("question(1)", x.question(1), 6);
        due("question(2)", x.question(2), NONE);
        due("question(-1)", x.question(-1), NONE);
        x.swear(0, 0, 1, 1);
        due("b by day 1", x.question(0), 11);
        due("of three", x.question(1), 2);
        due("in all", x.settled(0, 1), 1);
        due("in some", x.settled(1, 3), 2);
        due("in none", x.settled(3, 1), 0);
        due("settled(6, 0)", x.settled(6, 0), NONE);
        due("settled(0, 4)", x.settled(0, 4), NONE);
        due("settled(-1, 0)", x.settled(-1, 0), NONE);
        x.fact(1, 1, true);
        due("one life", x.question(0), NONE);
        due("one life", x.question(1), NONE);
        x.fact(1, 2, true);
        due("none", x.question(0), NONE);
        due("none", x.settled(0, 1), NONE);
        OathYesterday y = Check.made("t2;el0;el0");
        due("of several the lowest deed and day", y.question(0), 0);
        due("half", y.question(1), 2);
        OathYesterday z = Check.made("t4;ef3;ef2l2");
        due("the lowest day that parts", z.question(0), 3);
    }

    private static void rings() {
        OathYesterday x = Check.made("t2;e;e", "#1", "#0", "!#0", "a&#0", "a", "#2|#0");
        due("nothing is sworn", x.rings(0, NONE), 1);
        due("the empty one", x.rings(0, 0), 0);
        due("no second", x.rings(0, 1), NONE);
        x.swear(0, 0, 1, 1);
        x.swear(0, 1, 1, 1);
        due("two hold each other up", x.rings(99, NONE), 2);
        due("none", x.rings(99, 0), 0);
        due("both", x.rings(99, 1), 3);
        due("no third", x.rings(99, 2), NONE);
        due("rings(.., -2)", x.rings(99, -2), NONE);
        int[] wrong = {-1, 2, 20, 100, 990, Integer.MAX_VALUE};
        for (int life : wrong) {
            due("rings(" + life + ")", x.rings(life, NONE), NONE);
        }
        x.swear(0, 4, 2, 1);
        due("a is done", x.rings(9, NONE), 2);
        due("with a", x.rings(9, 0), 4);
        due("all", x.rings(9, 1), 7);
        due("a is not done", x.rings(99, 1), 3);
        x.fact(0, 9, true);
        due("facts do not matter", x.rings(9, NONE), 2);
        OathYesterday y = Check.made("t2;e;e", "#1", "#0", "!#0", "a&#0", "#3");
        y.swear(0, 2, 1, 1);
        due("it denies itself", y.rings(0, NONE), 0);
        due("it denies itself", y.rings(0, 0), NONE);
        y.undo();
        y.swear(0, 4, 1, 1);
        due("what is not sworn", y.rings(0, NONE), 1);
        due("what is not sworn", y.rings(0, 0), 0);
        y.undo();
        y.swear(0, 3, 1, 1);
        due("by itself, if a is done", y.rings(0, NONE), 2);
        due("by itself, a is not done", y.rings(99, NONE), 1);
        due("a is not seen on day 1", y.rings(19, NONE), 1);
    }

    private static void fall() {
        OathYesterday x = Check.made(LAND, "a|b", "!a", "!b", "!#2", "a", "#0");
        due("nothing is sworn", x.fall(0), 0);
        due("nothing is sworn", x.fall(1), 0);
        x.swear(0, 0, 3, 1);
        x.swear(0, 1, 3, 1);
        due("both hold", x.fall(0), 0);
        x.swear(0, 2, 3, 1);
        due("one is too many", x.fall(0), 1);
        due("the least bits", x.fall(1), 1);
        x.fact(0, 9, false);
        due("by a fact", x.fall(1), 2);
        due("fall(2)", x.fall(2), NONE);
        due("fall(-1)", x.fall(-1), NONE);
        x.fact(0, 9, true);
        due("no life", x.fall(0), NONE);
        due("no life", x.fall(1), NONE);
        OathYesterday y = Check.made(LAND, "!#2", "a", "!a", "#3");
        y.swear(0, 0, 3, 1);
        y.swear(0, 0, 3, 1);
        y.swear(0, 1, 3, 1);
        due("without the third", y.fall(0), 1);
        due("# of it is not", y.fall(1), 4);
        y.swear(0, 2, 3, 1);
        y.swear(0, 3, 3, 1);
        due("the fifth needs the fourth", y.fall(0), 1);
        due("still", y.fall(1), 4);
        OathYesterday z = Check.made(LAND, "#1", "a0&!a");
        z.swear(0, 0, 3, 1);
        z.swear(0, 1, 3, 1);
        due("both fall", z.fall(0), 2);
        due("both fall", z.fall(1), 3);
    }

    private static void stakeDuelBait() {
        OathYesterday x = Check.made("t2;e", "a", "!a");
        due("stake", x.stake(0, 5), true);
        due("stake", x.stake(1, 7), true);
        int[][] wrong = {{-1, 1}, {2, 1}, {8, 1}, {0, -1}, {0, 100}, {Integer.MAX_VALUE, 1}};
        for (int[] w : wrong) {
            due("stake(" + w[0] + ", " + w[1] + ")", x.stake(w[0], w[1]), false);
        }
        due("rests", x.duel(2, 3, NONE), 2);
        due("the first", x.duel(2, 3, 0), 0);
        due("the second", x.duel(2, 3, 1), 11);
        due("no third", x.duel(2, 3, 2), NONE);
        due("duel(.., -2)", x.duel(2, 3, -2), NONE);
        due("bait", x.bait(2, 3), 11);
        due("stake of 99", x.stake(0, 99), true);
        due("the greater gain", x.bait(2, 3), 0);
        due("on day 0 a can't be", x.duel(0, 3, NONE), 1);
        due("both say it is not", x.duel(0, 3, 0), 11);
        due("price 0 and 99", x.duel(2, 0, NONE) == NONE || x.duel(2, 99, NONE) == NONE, false);
        int[][] no = {{-1, 3}, {3, 3}, {2, -1}, {2, 100}, {9, 0}};
        for (int[] w : no) {
            due("duel(" + w[0] + ", " + w[1] + ")", x.duel(w[0], w[1], NONE), NONE);
            due("bait(" + w[0] + ", " + w[1] + ")", x.bait(w[0], w[1]), NONE);
        }
        x.stake(0, 0);
        x.stake(1, 0);
        int[] all = {0, 1, 9, 10, 11, 19, 90, 91, 99};
        due("all is 0", x.duel(2, 0, NONE), 9);
        for (int i = 0; i < 9; i++) {
            due("rest " + i, x.duel(2, 0, i), all[i]);
        }
        due("the lowest of both", x.bait(2, 0), 0);
        x.swear(0, 0, 2, 1);
        x.fact(0, 9, true);
        due("none fits: none swears", x.bait(2, 3), 99);
        due("none fits: none swears", x.duel(2, 3, NONE), 1);
        due("none fits: none swears", x.duel(2, 3, 0), 99);
        due("none fits, for nothing", x.bait(2, 0), 0);
        OathYesterday y = Check.made("t2;e");
        due("no oaths", y.duel(0, 0, NONE), 1);
        due("no oaths", y.duel(0, 0, 0), 99);
        due("no oaths", y.bait(0, 0), 99);
        OathYesterday z = Check.made("t2;e", "a", "#0");
        z.stake(1, 5);
        due("# by what is sworn", z.bait(2, 3), 0);
        z.swear(0, 0, 2, 1);
        due("# by what is sworn", z.bait(2, 3), 11);
    }

    private static void plan() {
        OathYesterday x = Check.made(LAND, "a", "a0", "a&b", "b", "a|!a", "!a");
        due("a by a0", x.plan(0, 3, 0), 1);
        due("a by a0, not by a&b", x.plan(0, 3, 1), 2);
        due("both", x.plan(2, 3, 0), 2);
        due("both", x.plan(2, 3, 1), 9);
        due("what is sure", x.plan(4, 3, 0), 0);
        due("what is sure", x.plan(4, 3, 1), 0);
        due("a0 by no other", x.plan(1, 3, 0), NONE);
        due("!a by no other", x.plan(5, 3, 1), NONE);
        due("a0 on day 1 by a", x.plan(1, 1, 1), 1);
        int[][] wrong = {{-1, 0, 0}, {6, 0, 0}, {4, -1, 0}, {4, 4, 0}, {4, 0, 2}, {4, 0, -1}};
        for (int[] w : wrong) {
            due("plan " + java.util.Arrays.toString(w), x.plan(w[0], w[1], w[2]), NONE);
        }
        x.swear(0, 0, 3, 1);
        due("a is sworn", x.plan(0, 3, 0), 0);
        due("b is enough", x.plan(2, 3, 1), 8);
        x.fact(0, 9, true);
        due("none fits", x.plan(4, 3, 0), NONE);
    }

    private static void impliesAndSame() {
        OathYesterday x = Check.made(LAND, "a", "a0", "c", "!!a", "b&a|a", "!c");
        due("a0, a", x.implies(1, 0, 3), 1);
        due("a, a0", x.implies(0, 1, 3), 0);
        due("a, a0 on day 1", x.implies(0, 1, 1), 1);
        due("what never holds", x.implies(2, 1, 3), 1);
        due("itself", x.implies(1, 1, 3), 1);
        int[][] wrong = {{-1, 0, 0}, {6, 0, 0}, {0, -1, 0}, {0, 6, 0}, {0, 0, -1}, {0, 0, 4}};
        for (int[] w : wrong) {
            due("implies " + java.util.Arrays.toString(w), x.implies(w[0], w[1], w[2]), NONE);
        }
        due("same(0, 3)", x.same(0, 3), 25);
        due("same(0, 1)", x.same(0, 1), 27);
        due("same(2, 3)", x.same(2, 3), 4);
        due("same(0, 0)", x.same(0, 0), 31);
        due("same(6, 0)", x.same(6, 0), NONE);
        due("same(-1, 0)", x.same(-1, 0), NONE);
        due("same(0, 4)", x.same(0, 4), NONE);
        x.swear(0, 1, 3, 1);
        due("possible lives count, not those that fit", x.implies(0, 1, 3), 0);
        due("likewise", x.same(0, 3), 25);
        x.fact(0, 9, true);
        due("by a fact", x.implies(0, 1, 3), 1);
        due("by a fact", x.same(0, 3), 31);
        x.fact(0, 0, true);
        due("no life", x.implies(5, 2, 3), 1);
        due("no life", x.same(5, 3), 63);
    }

    private static void daysOfAnOath() {
        OathYesterday x = six();
        int[] want = {14, 12, 12, 15, 14, 0};
        for (int oath = 0; oath < 6; oath++) {
            due("days(" + oath + ")", x.days(oath), want[oath]);
        }
        due("days(6)", x.days(6), NONE);
        due("days(-1)", x.days(-1), NONE);
        x.swear(0, 0, 1, 1);
        due("!a by a", x.days(3), 1);
        due("#0 by now", x.days(5), 15);
        x.fact(0, 9, true);
        due("none fits", x.days(3), 0);
    }

    private static void near() {
        OathYesterday x = six();
        due("itself", x.near(92, 0), 0);
        due("itself", x.near(92, 1), 92);
        x.swear(0, 2, 3, 1);
        due("both otherwise", x.near(99, 0), 2);
        due("the least", x.near(99, 1), 1);
        due("one otherwise", x.near(11, 0), 1);
        due("the least", x.near(11, 1), 1);
        due("near(19)", x.near(19, 1), 12);
        due("near(22)", x.near(22, 1), 2);
        int[] wrong = {3, 0, 10, 100, -1, Integer.MAX_VALUE};
        for (int life : wrong) {
            due("near(" + life + ")", x.near(life, 0), NONE);
        }
        due("near(11, 2)", x.near(11, 2), NONE);
        due("near(11, -1)", x.near(11, -1), NONE);
        x.fact(0, 9, true);
        due("none fits", x.near(11, 0), NONE);
        due("none fits", x.near(11, 1), NONE);
    }

    private static void alibiAndHands() {
        OathYesterday x = six();
        due("alibi(0, 0)", x.alibi(0, 0), 0);
        due("alibi(1, 0)", x.alibi(1, 0), 1);
        due("alibi(1, 2)", x.alibi(1, 2), 0);
        due("alibi(5, 2)", x.alibi(5, 2), 1);
        int[][] wrong = {{-1, 0}, {6, 0}, {0, -1}, {0, 3}, {0, 9}};
        for (int[] w : wrong) {
            due("alibi(" + w[0] + ", " + w[1] + ")", x.alibi(w[0], w[1]), NONE);
        }
        due("hands", x.hands(), 0);
        x.swear(0, 2, 3, 1);
        due("hands by a<b", x.hands(), 3);
        due("alibi(0, 2) by a<b", x.alibi(0, 2), 1);
        x.fact(0, 9, true);
        due("none fits", x.hands(), 63);
        due("none fits", x.alibi(0, 0), 1);
        OathYesterday y = Check.made("t2;ep3;ep3;ep4", "a|b");
        y.swear(0, 0, 2, 1);
        due("one of two deeds", y.hands(), 8);
        due("the other's deed on that day", y.alibi(3, 1), 0);
    }

    private static void meanAndLikeliest() {
        OathYesterday x = six();
        due("mean(0)", x.mean(0), 17);
        due("mean(1)", x.mean(1), 12);
        due("mean(2)", x.mean(2), NONE);
        due("mean(-1)", x.mean(-1), NONE);
        due("likeliest", x.likeliest(), 1);
        x.weigh(0, 1, 3);
        due("likeliest by a", x.likeliest(), 11);
        x.weigh(1, 9, 2);
        due("likeliest by both", x.likeliest(), 19);
        due("mean by weights", x.mean(0), (5 * 4 + 6 * 2) / 8);
        due("mean by weights (below)", x.mean(1), 6 * 4 / 8);
        x.swear(0, 0, 1, 1);
        due("of those that fit", x.likeliest(), 9);
        due("of those that fit", x.mean(0), 3);
        due("of those that fit (below)", x.mean(1), 2);
        x.weigh(0, 0, 0);
        due("all are 0: the least", x.likeliest(), 1);
        due("all is 0", x.mean(0), NONE);
        due("all is 0", x.mean(1), NONE);
        x.fact(0, 9, true);
        due("none fits", x.likeliest(), NONE);
        due("none fits", x.mean(0), NONE);
        OathYesterday y = Check.made(LAND);
        y.fact(0, 9, true);
        y.fact(1, 9, true);
        due("nothing is done", y.mean(0), 0);
        due("nothing is done (below)", y.mean(1), 1);
    }

    private static void drawn() {
        OathYesterday x = six();
        // x of 0 is 1442695040888963407; shifted 167951807, 11 more than a multiple of 12.
        due("drawn(0)", x.drawn(0L), LIVES[11]);
        // x of 1 is 7806831264735756412; shifted 908834774, 2 more than a multiple of 12.
        due("drawn(1)", x.drawn(1L), LIVES[2]);
        // x of -1 is 13525302890751722018 without sign; shifted 1574552488, 4 more than one.
        due("drawn(-1)", x.drawn(-1L), LIVES[4]);
        x.swear(0, 0, 1, 1);
        due("of three", x.drawn(0L), LIVES[167951807 % 3]);
        x.fact(1, 1, true);
        due("of one", x.drawn(Long.MIN_VALUE), 1);
        x.fact(0, 9, true);
        due("none fits", x.drawn(0L), NONE);
    }

    private static void busy() {
        OathYesterday x = six();
        due("two", x.busy(0), 2);
        due("on day 1", x.busy(1), 1);
        due("busy(2)", x.busy(2), NONE);
        due("busy(-1)", x.busy(-1), NONE);
        x.swear(0, 2, 3, 1);
        due("one", x.busy(0), 1);
        due("on day 0", x.busy(1), 0);
        x.undo();
        x.fact(0, 9, true);
        due("b alone", x.busy(1), 1);
        x.fact(1, 9, true);
        due("nothing is done", x.busy(0), 0);
        due("no day", x.busy(1), NONE);
        x.fact(1, 1, true);
        due("none fits", x.busy(0), NONE);
        due("none fits", x.busy(1), NONE);
    }

    private static void rows() {
        OathYesterday x = six();
        due("ahead", x.rows(0, 1, 0), 3);
        due("behind", x.rows(0, 1, 1), 1);
        due("on one day", x.rows(0, 1, 2), 2);
        due("the other way", x.rows(1, 0, 0), 1);
        due("the other way", x.rows(1, 0, 1), 3);
        int[][] wrong = {{0, 0, 0}, {1, 1, 2}, {-1, 0, 0}, {0, -1, 0}, {2, 0, 0}, {0, 2, 0}, {0, 1, 3}, {0, 1, -1}};
        for (int[] w : wrong) {
            due("rows " + java.util.Arrays.toString(w), x.rows(w[0], w[1], w[2]), NONE);
        }
        x.swear(0, 0, 1, 1);
        due("ahead", x.rows(0, 1, 0), 2);
        due("behind", x.rows(0, 1, 1), 0);
        x.fact(0, 9, true);
        due("none fits", x.rows(0, 1, 0), 0);
    }

    private static void imageAndBack() {
        OathYesterday x = six();
        due("no image", x.back(), NONE);
        x.swear(0, 0, 1, 5);
        x.fact(1, 1, true);
        x.weigh(0, 0, 5);
        x.stake(0, 4);
        due("image", x.image(), 2);
        String kept = look(x);
        x.undo();
        x.undo();
        x.swear(4, 3, 2, 9);
        x.fact(0, 2, true);
        x.fact(0, 2, true);
        x.weigh(0, 0, 2);
        x.weigh(1, 9, 0);
        due("back", x.back(), 2);
        due("all is so again", look(x).equals(kept), true);
        due("sworn", x.sworn(0, 3), 5);
        due("the order of acts: the fact", x.undo(), 1);
        due("it is gone", x.count(5), 0);
        due("the sworn one stays", x.count(4), 1);
        due("back once more", x.back(), 2);
        due("once more", look(x).equals(kept), true);
        x.stake(1, 50);
        x.back();
        due("gains are not kept", x.bait(3, 5), 11);
        x.undo();
        due("another image", x.image(), 1);
        x.undo();
        due("back to it", x.back(), 1);
        due("facts", x.count(5), 0);
        OathYesterday y = six();
        due("an image of no acts", y.image(), 0);
        y.swear(0, 0, 1, 5);
        Check.oath(y, "b1");
        due("back to no acts", y.back(), 0);
        due("oaths stay", y.count(2), 7);
        due("nothing sworn", y.count(4), 0);
    }

    private static void count() {
        OathYesterday x = six();
        x.swear(0, 0, 1, 5);
        x.swear(0, 0, 1, 5);
        x.fact(1, 1, true);
        Check.tape(x, "a b");
        int[] want = {2, 3, 6, 3, 2, 1, 3};
        for (int what = 0; what < want.length; what++) {
            due("count(" + what + ")", x.count(what), want[what]);
        }
        int[] wrong = {-1, 7, 8, Integer.MAX_VALUE, Integer.MIN_VALUE};
        for (int what : wrong) {
            due("count(" + what + ")", x.count(what), HIDDEN);
        }
    }

    /** A sworn one that can't hold: lives are possible, none fits. */
    private static void nothingFits() {
        OathYesterday x = six();
        x.swear(1, 0, 0, 8);
        due("possible", x.lives(false, NONE), 12);
        due("fit", x.lives(true, NONE), 0);
        due("breaks", x.breaks(), 0);
        due("when", x.when(0), 0);
        due("perjured", x.perjured(0), 8);
        due("perjured", x.perjured(1), 1);
        due("fall", x.fall(1), 1);
        due("odds", x.odds(0, 0, 0), NONE);
        due("care", x.care(3, 0, 0), NONE);
        due("rows", x.rows(0, 1, 2), 0);
        due("implies", x.implies(0, 1, 0), 1);
        due("worth", x.worth(1, 0, 0, true), 0);
    }

    /** Five deeds of six days: 7 to the 5th lives. */
    private static void largest() {
        OathYesterday x = Check.made("t6;e;e;e;e;e", "a<b&b<c&c<d&d<e", "a=b&b=c&c=d&d=e", "!(a|b|c|d|e)", "e5");
        due("lives", x.lives(false, NONE), 16807);
        due("the last", x.lives(false, 16806), 99999);
        due("the first", x.lives(false, 0), 0);
        due("one of them", x.lives(false, 7), 10);
        due("none", x.lives(false, 16807), NONE);
        due("odds of a row", x.odds(0, 6, 0), 6);
        due("odds of a row (below)", x.odds(0, 6, 1), 16807);
        x.swear(0, 0, 6, 1);
        due("six rows", x.lives(true, NONE), 6);
        due("the last row", x.lives(true, 5), 12345);
        due("the first row", x.lives(true, 0), 1234);
        due("busy", x.busy(0), 1);
        due("near", x.near(99999, 0), 5);
        due("near", x.near(12340, 1), 12345);
        x.undo();
        x.swear(0, 1, 6, 1);
        due("on one day", x.lives(true, NONE), 6);
        due("busy", x.busy(0), 5);
        due("on day 0", x.busy(1), 0);
        x.undo();
        for (int deed = 0; deed < 5; deed++) {
            x.weigh(deed, 5, 9);
        }
        due("likeliest", x.likeliest(), 55555);
        due("mean", x.mean(0), 14L * 5 / 5);
        due("mean (below)", x.mean(1), 15 / 5);
    }
}
