import java.nio.charset.StandardCharsets;
import java.nio.file.Files;
import java.nio.file.Path;
import java.util.ArrayList;
import java.util.BitSet;
import java.util.List;
import java.util.regex.Matcher;
import java.util.regex.Pattern;

/**
 * A sentence of the document that names a boundary, with the number of its promise. Its checks bear
 * both in their names; compareWithDocument looks each sentence up and finds those without a test.
 */
final class Bound {
    static final int NONE = OathYesterday.NONE;
    static final int HIDDEN = OathYesterday.HIDDEN;
    /** Stands for a NoSuchElementException. */
    static final int THROWN = -9;
    /** a by person 0 on days 0 .. 2, b by person 1 on days 1 .. 2. */
    static final String LAND = "t3;ep0;ep1f1";
    static final String BIG = "t6;e;e;e;e;e";
    private static final int PROMISES = 48;
    private static final List<Bound> ALL = new ArrayList<>();

    interface Make {
        OathYesterday make();
    }

    interface Call {
        long of(OathYesterday x);
    }

    interface CallBy {
        long of(OathYesterday x, int v);
    }

    private final int promise;
    private final String sentence;
    private final boolean isTerm;
    private int checks = 0;

    private Bound(int promise, String sentence, boolean isTerm) {
        this.promise = promise;
        this.sentence = sentence;
        this.isTerm = isTerm;
        ALL.add(this);
    }

    /** A sentence that stands under the promise's own heading. */
    static Bound of(int promise, String sentence) {
        return new Bound(promise, sentence, false);
    }

    /** A sentence that stands ahead of the promises, and that this promise uses. */
    static Bound term(int promise, String sentence) {
        return new Bound(promise, sentence, true);
    }

    void due(String what, long got, long want) {
        checks++;
        Check.due(named(what), got, want);
    }

    void due(String what, boolean got, boolean want) {
        checks++;
        Check.due(named(what), got, want);
    }

    private String named(String what) {
        return "promise " + promise + ", \"" + sentence + "\": " + what;
    }

    /** A call that is refused answers as told, and the object is as one that was not asked. */
    void refused(String what, Make make, long want, Call call) {
        OathYesterday x = make.make();
        due(what, call.of(x), want);
        due(what + " changes nothing", look(x).equals(look(make.make())), true);
    }

    /** Each of these numbers is refused, and so are the least and the greatest ones that there are. */
    void refusedBy(String what, Make make, long want, CallBy call, int... numbers) {
        refused(what + " least int", make, want, x -> call.of(x, Integer.MIN_VALUE));
        refused(what + " greatest int", make, want, x -> call.of(x, Integer.MAX_VALUE));
        for (int v : numbers) {
            refused(what + " " + v, make, want, x -> call.of(x, v));
        }
    }

    // ---- objects to start from

    static OathYesterday six() {
        return Check.made(LAND, "a", "b", "a<b", "!a", "a0|b2", "#0");
    }

    /** Something of each kind is told; three lives fit: 2, 12, 22. */
    static OathYesterday rich() {
        OathYesterday x = six();
        x.stake(0, 5);
        x.stake(1, 7);
        x.stake(3, 2);
        x.weigh(0, 1, 3);
        x.weigh(1, 9, 2);
        x.swear(0, 4, 3, 20);
        x.fact(1, 1, false);
        x.image();
        x.weigh(0, 0, 4);
        x.swear(2, 1, 3, 6);
        x.fact(0, 9, false);
        Check.tape(x, "a b");
        return x;
    }

    static OathYesterday noLand() {
        OathYesterday x = new OathYesterday();
        Check.oath(x, "a");
        Check.oath(x, "!a");
        x.stake(0, 5);
        Check.tape(x, "t3;e;");
        return x;
    }

    /** Two facts that are never so together: no life is possible. */
    static OathYesterday noLife() {
        OathYesterday x = six();
        x.swear(1, 3, 0, 4);
        x.fact(0, 9, true);
        x.fact(0, 0, true);
        return x;
    }

    /** What is sworn can't hold: all twelve lives are possible, none fits. */
    static OathYesterday noFit() {
        OathYesterday x = six();
        x.swear(1, 0, 0, 8);
        return x;
    }

    static OathYesterday noOaths() {
        return Check.made(LAND);
    }

    static OathYesterday big(String... oaths) {
        return Check.made(BIG, oaths);
    }

    /** Ten sworn ones that hold in all lives. */
    static OathYesterday tenSworn() {
        OathYesterday x = six();
        for (int i = 0; i < 10; i++) {
            x.swear(i % 6, 3, 0, 10 * i);
        }
        return x;
    }

    /** Twenty facts that leave a on days 0 and 1, and whatever b does. */
    static OathYesterday twentyFacts() {
        OathYesterday x = six();
        for (int i = 0; i < 20; i++) {
            x.fact(0, i % 2 == 0 ? 2 : 9, false);
        }
        return x;
    }

    static OathYesterday taped(String text) {
        OathYesterday x = six();
        Check.tape(x, text);
        return x;
    }

    // ---- all that an object answers

    /** What is told, what is asked, the tape by its faults, then the acts and the image unwound. */
    static String look(OathYesterday x) {
        StringBuilder s = new StringBuilder();
        lookAtTold(x, s);
        lookAtLives(x, s);
        lookAtDays(x, s);
        unwind(x, s);
        add(s, x.back());
        lookAtWeights(x, s);
        unwind(x, s);
        lookAtTape(x, s);
        return s.toString();
    }

    private static void add(StringBuilder s, long... answers) {
        for (long answer : answers) {
            s.append(answer).append(' ');
        }
    }

    private static void lookAtTold(OathYesterday x, StringBuilder s) {
        for (int what = 0; what < 7; what++) {
            add(s, x.count(what));
        }
        for (int deed = 0; deed < Math.max(1, x.count(0)); deed++) {
            add(s, Check.deed(x, deed, 0), Check.deed(x, deed, 1), Check.deed(x, deed, 2));
        }
        for (int i = 0; i < x.count(4); i++) {
            add(s, x.sworn(i, 0), x.sworn(i, 1), x.sworn(i, 2), x.sworn(i, 3));
        }
        for (int oath = 0; oath < x.count(2); oath++) {
            add(s, x.days(oath), x.odds(oath, 2, 0), x.odds(oath, 2, 1), x.same(oath, 2));
        }
    }

    private static void lookAtLives(OathYesterday x, StringBuilder s) {
        for (int i = NONE; i < 5; i++) {
            add(s, x.lives(false, i), x.lives(true, i));
        }
        for (int what = 0; what < 3; what++) {
            add(s, x.perjured(what), x.guilt(what), x.blame(what), x.fall(what), x.question(what));
        }
        add(s, x.breaks(), x.clash(), x.hands(), x.busy(0), x.busy(1), x.rings(1, NONE), x.near(2, 1));
        lookAtWeights(x, s);
    }

    private static void lookAtWeights(OathYesterday x, StringBuilder s) {
        add(s, x.mean(0), x.mean(1), x.likeliest(), x.drawn(5L));
    }

    private static void lookAtDays(OathYesterday x, StringBuilder s) {
        for (int day = 1; day <= x.count(1); day++) {
            add(s, x.may(day), x.most(day, 1), x.hinders(day), x.must(day), x.bait(day, 3));
            add(s, x.duel(day, 3, NONE), x.duel(day, 3, 0), x.duel(day, 3, 1));
        }
    }

    private static void unwind(OathYesterday x, StringBuilder s) {
        for (int left = x.undo(); left != NONE; left = x.undo()) {
            add(s, left, x.count(4), x.lives(true, NONE));
        }
    }

    private static void lookAtTape(OathYesterday x, StringBuilder s) {
        add(s, x.fault(0), x.fault(1));
        for (int n = 0; n < 12 && x.end(x.count(3) - 1); n++) {
            add(s, x.fault(0), x.fault(1));
        }
    }

    // ---- the document

    /** The sentences stand in it, once each; and each bracket and each refusal of it has a test. */
    static void compareWithDocument(String path) throws Exception {
        String doc = Files.readString(Path.of(path), StandardCharsets.UTF_8).replaceAll("\\s+", " ");
        BitSet told = new BitSet();
        BitSet promises = new BitSet();
        int terms = placeOf(doc, "## Promise 1:");
        for (Bound b : ALL) {
            int from = b.isTerm ? 0 : placeOf(doc, "## Promise " + b.promise + ":");
            int to = b.isTerm ? terms : doc.indexOf("## ", from + 3);
            int at = doc.substring(0, to).indexOf(b.sentence, from);
            Check.due(b.named("stands in the document"), at >= 0, true);
            boolean again = at >= 0 && doc.substring(0, to).indexOf(b.sentence, at + 1) >= 0;
            Check.due(b.named("stands there once more"), again, false);
            Check.due(b.named("has no check"), b.checks == 0, false);
            told.set(Math.max(at, 0), at < 0 ? 0 : at + b.sentence.length());
            promises.set(b.promise);
        }
        for (int promise = 1; promise <= PROMISES; promise++) {
            Check.due("promise " + promise + " has a boundary's test", promises.get(promise), true);
        }
        int begin = placeOf(doc, "## Terms");
        int end = placeOf(doc, "## Not promised");
        brackets(doc, begin, end, told);
        refusals(doc, terms, end, told);
    }

    private static int placeOf(String doc, String heading) {
        int at = doc.indexOf(heading);
        Check.due("the document has " + heading, at >= 0, true);
        return Math.max(at, 0);
    }

    /** Brackets, but not those that are signs of a text (a blank stands behind them) or of a call. */
    private static void brackets(String doc, int begin, int end, BitSet told) {
        Matcher m = Pattern.compile("(?<=[ |])\\((?! )[^()]*\\)").matcher(doc).region(begin, end);
        m.useTransparentBounds(true);
        int found = 0;
        while (m.find()) {
            found++;
            untold(doc, m.start(), m.end(), told);
        }
        Check.due("brackets were found", found > 100, true);
    }

    /** The parts of each sentence that begins with an answer of refusal. */
    private static void refusals(String doc, int begin, int end, BitSet told) {
        Matcher m = Pattern.compile("(?<=[^.]\\. |`: )(NONE|HIDDEN|False|-2|NoSuchElementException)[ :].*?[^.]\\.(?= )")
                .matcher(doc).region(begin, end);
        m.useTransparentBounds(true);
        int found = 0;
        while (m.find()) {
            found++;
            int from = m.start();
            for (String part : m.group().split(", ")) {
                untold(doc, from, from + part.length(), told);
                from += part.length() + 2;
            }
        }
        Check.due("sentences of refusal were found", found >= PROMISES - 2, true);
    }

    private static void untold(String doc, int from, int to, BitSet told) {
        String around = doc.substring(Math.max(0, from - 60), to);
        int last = doc.charAt(to - 1) == '.' ? to - 1 : to;
        Check.due("a test quotes the end of \"" + around + "\"", told.nextClearBit(from) >= last, true);
    }
}
