import java.math.BigInteger;
import java.util.ArrayList;
import java.util.List;
import java.util.NoSuchElementException;

/**
 * The document told a second time, life by life and with no thought of speed. It shares no code
 * with the class: texts are read by a machine of states, oaths are trees, lives are arrays of days.
 */
final class Model {
    static final int NONE = -1;
    static final int HIDDEN = -1000000;

    private String tape = "";
    private int days = 0;
    private List<int[]> deeds = new ArrayList<>();
    private List<int[]> allLives = new ArrayList<>();
    private final List<Tree> oaths = new ArrayList<>();
    private final int[] gains = new int[8];
    private List<int[]> acts = new ArrayList<>();
    private int[][] weights = ones();
    private List<int[]> imageActs = null;
    private int[][] imageWeights = null;

    /** A node of an oath: its sign (a letter's is 'a'), and what belongs to it. */
    private static final class Tree {
        char sign;
        int one;
        int other;
        Tree left;
        Tree right;
    }

    private static int[][] ones() {
        int[][] w = new int[5][10];
        for (int[] row : w) {
            java.util.Arrays.fill(row, 1);
        }
        return w;
    }

    private static int[][] copy(int[][] w) {
        int[][] c = new int[w.length][];
        for (int i = 0; i < w.length; i++) {
            c[i] = w[i].clone();
        }
        return c;
    }

    // ---- the tape and the texts

    int feed(int a, int b, int c, int d, int e) {
        StringBuilder more = new StringBuilder();
        for (int n : new int[] {a, b, c, d, e}) {
            for (int k = 3; k >= 0; k--) {
                char sign = (char) (n >> 8 * k & 0xFF);
                if (sign != 0) {
                    more.append(sign);
                }
            }
        }
        if (tape.length() + more.length() > 120) {
            return NONE;
        }
        tape += more;
        return tape.length();
    }

    boolean end(int n) {
        if (n < 0 || n > tape.length()) {
            return false;
        }
        tape = tape.substring(0, n);
        return true;
    }

    int fault(int sort) {
        return sort == 0 ? landFault(tape, null) : sort == 1 ? oathFault(tape) : -2;
    }

    int text(int sort) {
        if (sort == 0) {
            List<int[]> told = new ArrayList<>();
            if (landFault(tape, told) != NONE) {
                return NONE;
            }
            days = told.remove(0)[0];
            deeds = told;
            acts = new ArrayList<>();
            weights = ones();
            imageActs = null;
            imageWeights = null;
            allLives = generate();
            tape = "";
            return deeds.size();
        }
        if (sort != 1 || oaths.size() == 8 || oathFault(tape) != NONE) {
            return NONE;
        }
        String bare = tape.replace(" ", "");
        oaths.add(choices(bare, 0, bare.length()));
        tape = "";
        return oaths.size() - 1;
    }

    /** States: 0 t, 1 days, 2 ;, 3 e, 4 an item or ;, 5 an item's digit. told: days, then deeds. */
    private static int landFault(String text, List<int[]> told) {
        int state = 0;
        int span = 0;
        char item = 0;
        String items = "";
        int number = 0;
        int[] deed = null;
        for (int i = 0; i < text.length(); i++) {
            char c = text.charAt(i);
            if (c == ' ') {
                continue;
            }
            if (state == 0 && c == 't') {
                state = 1;
            } else if (state == 1 && "23456".indexOf(c) >= 0) {
                span = c - '0';
                if (told != null) {
                    told.add(new int[] {span});
                }
                state = 2;
            } else if ((state == 2 || state == 4) && c == ';' && number < 5) {
                state = 3;
            } else if (state == 3 && c == 'e') {
                number++;
                items = "";
                deed = new int[] {0, 0, span - 1};
                if (told != null) {
                    told.add(deed);
                }
                state = 4;
            } else if (state == 4 && "pfl".indexOf(c) >= 0 && items.indexOf(c) < 0) {
                item = c;
                items += c;
                state = 5;
            } else if (state == 5 && itemFits(item, c - '0', deed, span)) {
                deed["pfl".indexOf(item)] = c - '0';
                state = 4;
            } else {
                return i;
            }
        }
        return state == 4 ? NONE : text.length();
    }

    private static boolean itemFits(char item, int v, int[] deed, int span) {
        if (v < 0 || v > 5) {
            return false;
        }
        if (item == 'p') {
            return true;
        }
        return v < span && (item == 'f' ? v <= deed[2] : v >= deed[1]);
    }

    /** States: 0 a unit, 1 behind a letter, 2 behind a unit, 3 behind < or =, 4 behind #. */
    private static int oathFault(String text) {
        int state = 0;
        String open = "";
        for (int i = 0; i < text.length(); i++) {
            char c = text.charAt(i);
            if (c == ' ') {
                continue;
            }
            boolean letter = c >= 'a' && c <= 'e';
            if (state == 0 && (c == '!' || c == '(') && open.length() < 6) {
                open += c;
            } else if (state == 0 && c == '#') {
                state = 4;
            } else if (state == 0 && letter) {
                open = closed(open);
                state = 1;
            } else if (state == 1 && (c == '<' || c == '=')) {
                state = 3;
            } else if (state == 1 && c >= '0' && c <= '5') {
                state = 2;
            } else if (state == 3 && letter) {
                state = 2;
            } else if (state == 4 && c >= '0' && c <= '9') {
                open = closed(open);
                state = 2;
            } else if ((state == 1 || state == 2) && (c == '&' || c == '|')) {
                state = 0;
            } else if ((state == 1 || state == 2) && c == ')' && open.endsWith("(")) {
                open = closed(open.substring(0, open.length() - 1));
                state = 2;
            } else {
                return i;
            }
        }
        return (state == 1 || state == 2) && open.isEmpty() ? NONE : text.length();
    }

    /** What is still open when a unit is there: each ! in front of it is done. */
    private static String closed(String open) {
        String left = open;
        while (left.endsWith("!")) {
            left = left.substring(0, left.length() - 1);
        }
        return left;
    }

    private static Tree choices(String s, int from, int to) {
        return split(s, from, to, '|');
    }

    /** Splits at the last such sign that stands in no bracket. */
    private static Tree split(String s, int from, int to, char sign) {
        int depth = 0;
        for (int i = to - 1; i >= from; i--) {
            char c = s.charAt(i);
            depth += c == ')' ? 1 : c == '(' ? -1 : 0;
            if (depth == 0 && c == sign) {
                Tree t = new Tree();
                t.sign = sign;
                t.left = split(s, from, i, sign);
                t.right = sign == '|' ? split(s, i + 1, to, '&') : unit(s, i + 1, to);
                return t;
            }
        }
        return sign == '|' ? split(s, from, to, '&') : unit(s, from, to);
    }

    private static Tree unit(String s, int from, int to) {
        char c = s.charAt(from);
        if (c == '(') {
            return choices(s, from + 1, to - 1);
        }
        Tree t = new Tree();
        t.sign = c;
        if (c == '!') {
            t.left = unit(s, from + 1, to);
        } else if (c == '#') {
            t.one = s.charAt(from + 1) - '0';
        } else if (to - from == 1) {
            t.sign = 'a';
            t.one = c - 'a';
        } else if (to - from == 2) {
            t.sign = '0';
            t.one = c - 'a';
            t.other = s.charAt(from + 1) - '0';
        } else {
            t.sign = s.charAt(from + 1);
            t.one = c - 'a';
            t.other = s.charAt(from + 2) - 'a';
        }
        return t;
    }

    // ---- lives

    private List<int[]> generate() {
        List<int[]> lives = new ArrayList<>();
        int top = 1;
        for (int i = 0; i < deeds.size(); i++) {
            top *= 10;
        }
        for (int n = 0; n < top; n++) {
            int[] life = digits(n);
            if (life != null) {
                lives.add(life);
            }
        }
        return lives;
    }

    /** The life of a number, or null. */
    private int[] digits(int n) {
        if (n < 0 || deeds.isEmpty()) {
            return null;
        }
        int[] life = new int[deeds.size()];
        int rest = n;
        for (int d = deeds.size() - 1; d >= 0; d--) {
            life[d] = rest % 10;
            rest /= 10;
            if (life[d] != 9 && (life[d] < deeds.get(d)[1] || life[d] > deeds.get(d)[2])) {
                return null;
            }
        }
        return rest == 0 ? life : null;
    }

    private static int number(int[] life) {
        int n = 0;
        for (int day : life) {
            n = 10 * n + day;
        }
        return n;
    }

    private static boolean isSeen(int[] life, int deed, int s) {
        return deed < life.length && life[deed] < s;
    }

    private static boolean isTrue(Tree t, int s, int[] life, int there) {
        switch (t.sign) {
            case '|': return isTrue(t.left, s, life, there) || isTrue(t.right, s, life, there);
            case '&': return isTrue(t.left, s, life, there) && isTrue(t.right, s, life, there);
            case '!': return !isTrue(t.left, s, life, there);
            case '#': return (there >> t.one & 1) == 1;
            case 'a': return isSeen(life, t.one, s);
            case '0': return isSeen(life, t.one, s) && life[t.one] <= t.other;
            default:
                if (!isSeen(life, t.one, s) || !isSeen(life, t.other, s)) {
                    return false;
                }
                return t.sign == '<' ? life[t.one] < life[t.other] : life[t.one] == life[t.other];
        }
    }

    private List<int[]> ofKind(int kind) {
        List<int[]> list = new ArrayList<>();
        for (int[] act : acts) {
            if (act[0] == kind) {
                list.add(act);
            }
        }
        return list;
    }

    private List<int[]> sworn() {
        return ofKind(0);
    }

    private int all() {
        return (1 << sworn().size()) - 1;
    }

    private boolean isSo(int[] life, int deed, int day, boolean is) {
        return (life[deed] == day) == is;
    }

    private List<int[]> possible() {
        List<int[]> facts = ofKind(1);
        List<int[]> list = new ArrayList<>();
        for (int[] life : allLives) {
            boolean so = true;
            for (int[] f : facts) {
                so &= isSo(life, f[1], f[2], f[3] == 1);
            }
            if (so) {
                list.add(life);
            }
        }
        return list;
    }

    private boolean keeps(int[] life, int[] one, int there) {
        return isTrue(oaths.get(one[2]), one[3], life, there);
    }

    private List<int[]> fitting() {
        List<int[]> sworn = sworn();
        int there = all();
        List<int[]> list = new ArrayList<>();
        for (int[] life : possible()) {
            boolean fits = true;
            for (int[] one : sworn) {
                fits = fits && keeps(life, one, there);
            }
            if (fits) {
                list.add(life);
            }
        }
        return list;
    }

    private boolean on(int oath, int day, int[] life) {
        return isTrue(oaths.get(oath), day, life, all());
    }

    private boolean isLand() {
        return !deeds.isEmpty();
    }

    private boolean isDay(int day) {
        return isLand() && day >= 0 && day <= days;
    }

    private boolean isOath(int oath) {
        return oath >= 0 && oath < oaths.size();
    }

    private boolean isDate(int deed, int day) {
        return deed >= 0 && deed < deeds.size() && (day == 9 || day >= 0 && day < days);
    }

    // ---- acts

    int deed(int deed, int what) {
        if (deed < 0 || deed >= deeds.size() || what < 0 || what > 2) {
            throw new NoSuchElementException();
        }
        return deeds.get(deed)[what];
    }

    int swear(int person, int oath, int day, int cost) {
        if (person < 0 || person > 5 || !isOath(oath) || !isDay(day) || cost < 0 || cost > 99
                || sworn().size() >= 10) {
            return NONE;
        }
        acts.add(new int[] {0, person, oath, day, cost});
        return sworn().size();
    }

    int sworn(int i, int what) {
        List<int[]> sworn = sworn();
        return i < 0 || i >= sworn.size() || what < 0 || what > 3 ? NONE : sworn.get(i)[what + 1];
    }

    int fact(int deed, int day, boolean is) {
        if (!isDate(deed, day) || ofKind(1).size() >= 20) {
            return NONE;
        }
        acts.add(new int[] {1, deed, day, is ? 1 : 0});
        return ofKind(1).size();
    }

    int undo() {
        if (acts.isEmpty()) {
            return NONE;
        }
        acts.remove(acts.size() - 1);
        return acts.size();
    }

    boolean weigh(int deed, int day, int v) {
        if (!isDate(deed, day) || v < 0 || v > 9) {
            return false;
        }
        weights[deed][day] = v;
        return true;
    }

    boolean stake(int oath, int v) {
        if (!isOath(oath) || v < 0 || v > 99) {
            return false;
        }
        gains[oath] = v;
        return true;
    }

    int image() {
        if (!isLand()) {
            return NONE;
        }
        imageActs = new ArrayList<>(acts);
        imageWeights = copy(weights);
        return acts.size();
    }

    int back() {
        if (imageActs == null) {
            return NONE;
        }
        acts = new ArrayList<>(imageActs);
        weights = copy(imageWeights);
        return acts.size();
    }

    int count(int what) {
        int[] counts = {deeds.size(), days, oaths.size(), tape.length(), sworn().size(),
            ofKind(1).size(), acts.size()};
        return what < 0 || what >= counts.length ? HIDDEN : counts[what];
    }

    // ---- part 2

    int lives(boolean fit, int i) {
        if (!isLand()) {
            return NONE;
        }
        List<int[]> list = fit ? fitting() : possible();
        if (i == NONE) {
            return list.size();
        }
        return i < 0 || i >= list.size() ? NONE : number(list.get(i));
    }

    int holds(int oath, int day, int life) {
        int[] l = digits(life);
        return !isOath(oath) || !isDay(day) || l == null ? NONE : on(oath, day, l) ? 1 : 0;
    }

    int when(int deed) {
        if (deed < 0 || deed >= deeds.size()) {
            return NONE;
        }
        int bits = 0;
        for (int[] life : fitting()) {
            bits |= 1 << life[deed];
        }
        return bits;
    }

    int breaks() {
        List<int[]> sworn = sworn();
        List<int[]> left = possible();
        for (int i = 0; i < sworn.size(); i++) {
            List<int[]> next = new ArrayList<>();
            for (int[] life : left) {
                if (keeps(life, sworn.get(i), all())) {
                    next.add(life);
                }
            }
            if (next.isEmpty()) {
                return i;
            }
            left = next;
        }
        return NONE;
    }

    int clash() {
        List<int[]> sworn = sworn();
        List<int[]> possible = possible();
        for (int i = 0; i < sworn.size(); i++) {
            for (int j = i + 1; j < sworn.size(); j++) {
                boolean one = false;
                boolean other = false;
                boolean both = false;
                for (int[] life : possible) {
                    boolean a = keeps(life, sworn.get(i), all());
                    boolean b = keeps(life, sworn.get(j), all());
                    one |= a;
                    other |= b;
                    both |= a && b;
                }
                if (one && other && !both) {
                    return 10 * i + j;
                }
            }
        }
        return NONE;
    }

    // ---- part 3

    private boolean someFits(int day, int set) {
        for (int[] life : fitting()) {
            boolean allHold = true;
            for (int o = 0; o < oaths.size(); o++) {
                allHold = allHold && ((set >> o & 1) == 0 || on(o, day, life));
            }
            if (allHold) {
                return true;
            }
        }
        return false;
    }

    int may(int day) {
        if (!isDay(day)) {
            return NONE;
        }
        int bits = 0;
        for (int o = 0; o < oaths.size(); o++) {
            bits |= someFits(day, 1 << o) ? 1 << o : 0;
        }
        return bits;
    }

    int most(int day, int what) {
        if (!isDay(day) || what < 0 || what > 1) {
            return NONE;
        }
        boolean[] can = new boolean[1 << oaths.size()];
        for (int[] life : fitting()) {
            int holding = 0;
            for (int o = 0; o < oaths.size(); o++) {
                holding |= on(o, day, life) ? 1 << o : 0;
            }
            can[holding] = true;
        }
        for (int size = oaths.size(); size >= 0; size--) {
            for (int set = 0; set < can.length; set++) {
                for (int holding = 0; holding < can.length; holding++) {
                    if (Integer.bitCount(set) == size && can[holding] && (set & ~holding) == 0) {
                        return what == 0 ? size : set;
                    }
                }
            }
        }
        return NONE;
    }

    int hinders(int day) {
        if (!isDay(day)) {
            return NONE;
        }
        int pairs = 0;
        for (int a = 0; a < oaths.size(); a++) {
            for (int b = a + 1; b < oaths.size(); b++) {
                if (someFits(day, 1 << a) && someFits(day, 1 << b)
                        && !someFits(day, 1 << a | 1 << b)) {
                    pairs++;
                }
            }
        }
        return pairs;
    }

    int must(int day) {
        if (!isDay(day)) {
            return NONE;
        }
        int bits = (1 << oaths.size()) - 1;
        for (int[] life : fitting()) {
            for (int o = 0; o < oaths.size(); o++) {
                bits &= on(o, day, life) ? -1 : ~(1 << o);
            }
        }
        return bits;
    }

    int care(int oath, int day, int what) {
        if (!isOath(oath) || !isDay(day) || what < 0 || what > 2) {
            return NONE;
        }
        int fewest = 99;
        int which = NONE;
        int open = 0;
        for (int[] life : fitting()) {
            if (!on(oath, day, life)) {
                continue;
            }
            int done = 0;
            for (int d = 0; d < life.length; d++) {
                done += life[d] < day ? 1 : 0;
                open |= life[d] == 9 ? 1 << d : 0;
            }
            if (done < fewest) {
                fewest = done;
                which = number(life);
            }
        }
        return which == NONE ? NONE : what == 0 ? fewest : what == 1 ? which : open;
    }

    private int costOf(int[] life, int whose, int there) {
        List<int[]> sworn = sworn();
        int cost = 0;
        for (int i = 0; i < sworn.size(); i++) {
            if ((whose >> i & 1) == 1 && !keeps(life, sworn.get(i), there)) {
                cost += sworn.get(i)[4];
            }
        }
        return cost;
    }

    private int[] cheapest(List<int[]> lives, int whose, int there) {
        int[] best = null;
        for (int[] life : lives) {
            if (best == null || costOf(life, whose, there) < costOf(best, whose, there)) {
                best = life;
            }
        }
        return best;
    }

    private int of(int person) {
        int own = 0;
        for (int i = 0; i < sworn().size(); i++) {
            own |= sworn().get(i)[1] == person ? 1 << i : 0;
        }
        return own;
    }

    int perjured(int what) {
        if (!isLand() || what < 0 || what > 2) {
            return NONE;
        }
        int[] best = cheapest(possible(), all(), all());
        if (best == null) {
            return NONE;
        }
        int broken = 0;
        for (int i = 0; i < sworn().size(); i++) {
            broken |= keeps(best, sworn().get(i), all()) ? 0 : 1 << i;
        }
        return what == 0 ? costOf(best, all(), all()) : what == 1 ? number(best) : broken;
    }

    int guilt(int person) {
        if (person < 0 || person > 5 || perjured(2) == NONE) {
            return NONE;
        }
        return Integer.bitCount(perjured(2) & of(person));
    }

    int blame(int what) {
        if (!isLand() || what < 0 || what > 1 || possible().isEmpty()) {
            return NONE;
        }
        int who = 0;
        int least = 1 << 30;
        for (int person = 0; person < 6; person++) {
            int whose = all() & ~of(person);
            int cost = costOf(cheapest(possible(), whose, all()), whose, all());
            if (cost < least) {
                least = cost;
                who = person;
            }
        }
        return what == 0 ? who : least;
    }

    int worth(int person, int deed, int day, boolean is) {
        if (person < 0 || person > 5 || !isDate(deed, day) || possible().isEmpty()) {
            return HIDDEN;
        }
        List<int[]> with = new ArrayList<>();
        for (int[] life : possible()) {
            if (isSo(life, deed, day, is)) {
                with.add(life);
            }
        }
        if (with.isEmpty()) {
            return 0;
        }
        int own = of(person);
        int before = costOf(cheapest(possible(), own, own), own, own);
        return before - costOf(cheapest(with, own, own), own, own);
    }

    // ---- part 4

    private long product(int[] life) {
        long p = 1;
        for (int d = 0; d < life.length; d++) {
            p *= weights[d][life[d]];
        }
        return p;
    }

    private static long plain(long above, long below, int part) {
        if (below == 0) {
            return NONE;
        }
        long g = BigInteger.valueOf(above).gcd(BigInteger.valueOf(below)).longValue();
        return (part == 0 ? above : below) / g;
    }

    long odds(int oath, int day, int part) {
        if (!isOath(oath) || !isDay(day) || part < 0 || part > 1) {
            return NONE;
        }
        long above = 0;
        long below = 0;
        for (int[] life : fitting()) {
            below += product(life);
            above += on(oath, day, life) ? product(life) : 0;
        }
        return plain(above, below, part);
    }

    int question(int what) {
        if (!isLand() || what < 0 || what > 1) {
            return NONE;
        }
        List<int[]> fitting = fitting();
        int best = NONE;
        int least = 1 << 30;
        for (int d = 0; d < deeds.size(); d++) {
            for (int k = 0; k < days; k++) {
                int done = 0;
                for (int[] life : fitting) {
                    done += life[d] <= k ? 1 : 0;
                }
                int not = fitting.size() - done;
                if (done > 0 && not > 0 && Math.max(done, not) < least) {
                    least = Math.max(done, not);
                    best = 10 * d + k;
                }
            }
        }
        return best == NONE || what == 0 ? best : least;
    }

    int settled(int oath, int day) {
        if (!isOath(oath) || !isDay(day)) {
            return NONE;
        }
        int holding = 0;
        List<int[]> fitting = fitting();
        for (int[] life : fitting) {
            holding += on(oath, day, life) ? 1 : 0;
        }
        return fitting.isEmpty() ? NONE : holding == 0 ? 0 : holding == fitting.size() ? 1 : 2;
    }

    int rings(int life, int i) {
        int[] l = digits(life);
        if (l == null) {
            return NONE;
        }
        List<int[]> sworn = sworn();
        List<Integer> rings = new ArrayList<>();
        for (int set = 0; set <= all(); set++) {
            boolean just = true;
            for (int k = 0; k < sworn.size(); k++) {
                just = just && keeps(l, sworn.get(k), set) == ((set >> k & 1) == 1);
            }
            if (just) {
                rings.add(set);
            }
        }
        return i == NONE ? rings.size() : i < 0 || i >= rings.size() ? NONE : rings.get(i);
    }

    int fall(int what) {
        if (!isLand() || what < 0 || what > 1) {
            return NONE;
        }
        List<int[]> possible = possible();
        List<int[]> sworn = sworn();
        int best = NONE;
        for (int gone = 0; gone <= all(); gone++) {
            if (best != NONE && Integer.bitCount(gone) >= Integer.bitCount(best)) {
                continue;
            }
            for (int[] life : possible) {
                boolean fine = true;
                for (int i = 0; i < sworn.size(); i++) {
                    fine = fine && ((gone >> i & 1) == 1 || keeps(life, sworn.get(i), all() & ~gone));
                }
                if (fine) {
                    best = gone;
                    break;
                }
            }
        }
        return best == NONE ? NONE : what == 0 ? Integer.bitCount(best) : best;
    }

    // ---- part 5

    /** What the first one of two has, 9 standing for none. */
    private int share(int own, int other, int day, int price) {
        if (own == 9) {
            return 0;
        }
        return someFits(day, 1 << own | (other == 9 ? 0 : 1 << other)) ? gains[own] : -price;
    }

    private List<Integer> choices() {
        List<Integer> list = new ArrayList<>();
        for (int o = 0; o < oaths.size(); o++) {
            list.add(o);
        }
        list.add(9);
        return list;
    }

    private int[][] shares(int day, int price) {
        int[][] table = new int[10][10];
        for (int a : choices()) {
            for (int b : choices()) {
                table[a][b] = share(a, b, day, price);
            }
        }
        return table;
    }

    int duel(int day, int price, int i) {
        if (!isDay(day) || price < 0 || price > 99) {
            return NONE;
        }
        int[][] has = shares(day, price);
        List<Integer> rests = new ArrayList<>();
        for (int a : choices()) {
            for (int b : choices()) {
                boolean rest = true;
                for (int c : choices()) {
                    rest = rest && has[c][b] <= has[a][b] && has[c][a] <= has[b][a];
                }
                if (rest) {
                    rests.add(10 * a + b);
                }
            }
        }
        return i == NONE ? rests.size() : i < 0 || i >= rests.size() ? NONE : rests.get(i);
    }

    int bait(int day, int price) {
        if (!isDay(day) || price < 0 || price > 99) {
            return NONE;
        }
        int[][] has = shares(day, price);
        int best = NONE;
        for (int a : choices()) {
            int answer = NONE;
            for (int b : choices()) {
                if (answer == NONE || has[b][a] > has[answer][a]) {
                    answer = b;
                }
            }
            if (best == NONE || has[a][answer] > has[best / 10][best % 10]) {
                best = 10 * a + answer;
            }
        }
        return best;
    }

    int plan(int oath, int day, int what) {
        if (!isOath(oath) || !isDay(day) || what < 0 || what > 1) {
            return NONE;
        }
        int best = NONE;
        List<int[]> fitting = fitting();
        for (int set = 0; set < 1 << oaths.size(); set++) {
            if ((set >> oath & 1) == 1
                    || best != NONE && Integer.bitCount(set) >= Integer.bitCount(best)) {
                continue;
            }
            int fit = 0;
            int held = 0;
            for (int[] life : fitting) {
                boolean fine = true;
                for (int o = 0; o < oaths.size(); o++) {
                    fine = fine && ((set >> o & 1) == 0 || on(o, day, life));
                }
                fit += fine ? 1 : 0;
                held += fine && on(oath, day, life) ? 1 : 0;
            }
            if (fit > 0 && held == fit) {
                best = set;
            }
        }
        return best == NONE ? NONE : what == 0 ? Integer.bitCount(best) : best;
    }

    int implies(int one, int other, int day) {
        if (!isOath(one) || !isOath(other) || !isDay(day)) {
            return NONE;
        }
        for (int[] life : possible()) {
            if (on(one, day, life) && !on(other, day, life)) {
                return 0;
            }
        }
        return 1;
    }

    int same(int oath, int day) {
        if (!isOath(oath) || !isDay(day)) {
            return NONE;
        }
        int bits = 0;
        for (int o = 0; o < oaths.size(); o++) {
            bits |= implies(oath, o, day) == 1 && implies(o, oath, day) == 1 ? 1 << o : 0;
        }
        return bits;
    }

    int days(int oath) {
        if (!isOath(oath) || !isLand()) {
            return NONE;
        }
        int bits = 0;
        for (int day = 0; day <= days; day++) {
            bits |= (may(day) >> oath & 1) << day;
        }
        return bits;
    }

    int near(int life, int what) {
        int[] l = digits(life);
        if (l == null || what < 0 || what > 1) {
            return NONE;
        }
        int fewest = 99;
        int which = NONE;
        for (int[] other : fitting()) {
            int differing = 0;
            for (int d = 0; d < l.length; d++) {
                differing += l[d] == other[d] ? 0 : 1;
            }
            if (differing < fewest) {
                fewest = differing;
                which = number(other);
            }
        }
        return which == NONE ? NONE : what == 0 ? fewest : which;
    }

    int alibi(int person, int day) {
        if (person < 0 || person > 5 || !isLand() || day < 0 || day >= days) {
            return NONE;
        }
        for (int[] life : fitting()) {
            for (int d = 0; d < life.length; d++) {
                if (deeds.get(d)[0] == person && life[d] == day) {
                    return 0;
                }
            }
        }
        return 1;
    }

    int hands() {
        if (!isLand()) {
            return NONE;
        }
        int bits = 63;
        for (int[] life : fitting()) {
            int doers = 0;
            for (int d = 0; d < life.length; d++) {
                doers |= life[d] == 9 ? 0 : 1 << deeds.get(d)[0];
            }
            bits &= doers;
        }
        return bits;
    }

    long mean(int part) {
        if (!isLand() || part < 0 || part > 1) {
            return NONE;
        }
        long above = 0;
        long below = 0;
        for (int[] life : fitting()) {
            for (int day : life) {
                above += day == 9 ? 0 : product(life);
            }
            below += product(life);
        }
        return plain(above, below, part);
    }

    int likeliest() {
        int[] best = null;
        for (int[] life : fitting()) {
            best = best == null || product(life) > product(best) ? life : best;
        }
        return best == null ? NONE : number(best);
    }

    int drawn(long seed) {
        List<int[]> fitting = fitting();
        if (fitting.isEmpty()) {
            return NONE;
        }
        BigInteger x = BigInteger.valueOf(seed).multiply(new BigInteger("6364136223846793005"))
                .add(new BigInteger("1442695040888963407")).mod(BigInteger.ONE.shiftLeft(64));
        BigInteger i = x.shiftRight(33).mod(BigInteger.valueOf(fitting.size()));
        return number(fitting.get(i.intValue()));
    }

    int busy(int what) {
        if (!isLand() || what < 0 || what > 1) {
            return NONE;
        }
        int most = NONE;
        int busyDay = NONE;
        for (int day = 0; day < days; day++) {
            for (int[] life : fitting()) {
                int done = 0;
                for (int d : life) {
                    done += d == day ? 1 : 0;
                }
                if (done > most) {
                    most = done;
                    busyDay = done == 0 ? NONE : day;
                }
            }
        }
        return what == 0 ? most : busyDay;
    }

    int rows(int one, int other, int what) {
        if (one < 0 || other < 0 || one >= deeds.size() || other >= deeds.size() || one == other
                || what < 0 || what > 2) {
            return NONE;
        }
        int n = 0;
        for (int[] life : fitting()) {
            if (life[one] != 9 && life[other] != 9) {
                int order = Integer.compare(life[one], life[other]);
                n += order == (what == 0 ? -1 : what == 1 ? 1 : 0) ? 1 : 0;
            }
        }
        return n;
    }
}
