import java.util.Arrays;
import java.util.NoSuchElementException;

/**
 * Oaths that bind yesterday: a land of deeds, oaths about what shall have been, and what follows
 * from them. Sets of lives are rows of bits, one bit for each life of the land.
 */
public final class OathYesterday {
    public static final int NONE = -1;
    public static final int HIDDEN = -1000000;

    private static final int NO_SUCH_SORT = -2;
    private static final int NEVER = 9;
    private static final int NO_OATH = 9;
    private static final int MAX_DEEDS = 5;
    private static final int MAX_DAYS = 6;
    private static final int MAX_OATHS = 8;
    private static final int MAX_SWORN = 10;
    private static final int MAX_FACTS = 20;
    private static final int PERSONS = 6;
    private static final int MAX_PRICE = 99;
    private static final int MAX_WEIGHT = 9;
    private static final int TAPE_BYTES = 120;
    private static final int DATES = 10;
    /** 7 to the 5th lives at most, 64 of them in a word. */
    private static final int ROW_WORDS = 263;
    private static final int LEVELS = MAX_OATHS + 1;

    private final Tape tape;
    private final LandReader reader;
    private final Oaths oaths;
    private final Land land;
    private final Annals annals;
    private final Annals kept;
    private final Court court;
    private final Counsel counsel;
    private final Ledger ledger;
    private final Chances chances;
    private final Game game;
    private boolean hasImage;

    public OathYesterday() {
        tape = new Tape();
        reader = new LandReader();
        oaths = new Oaths();
        land = new Land();
        annals = new Annals();
        kept = new Annals();
        court = new Court(land, oaths, annals);
        counsel = new Counsel(land, oaths, court);
        ledger = new Ledger(land, oaths, annals, court);
        chances = new Chances(land, annals, court);
        game = new Game(oaths, counsel);
        hasImage = false;
    }

    public int feed(int a, int b, int c, int d, int e) {
        return tape.take(a, b, c, d, e);
    }

    public boolean end(int n) {
        return tape.cut(n);
    }

    public int fault(int sort) {
        if (sort == 0) {
            return reader.read(tape);
        }
        return sort == 1 ? oaths.read(tape) : NO_SUCH_SORT;
    }

    public int text(int sort) {
        if (sort == 0 && reader.read(tape) == NONE) {
            land.settle(reader);
            annals.clear();
            hasImage = false;
            court.review();
            tape.cut(0);
            return land.deedCount();
        }
        if (sort == 1 && oaths.size() < MAX_OATHS && oaths.read(tape) == NONE) {
            tape.cut(0);
            return oaths.keepDraft();
        }
        return NONE;
    }

    public int deed(int deed, int what) throws NoSuchElementException {
        if (!land.hasDeed(deed) || what < 0 || what >= LandReader.TRAITS) {
            throw new NoSuchElementException("no such deed, or nothing such of it");
        }
        return land.trait(deed, what);
    }

    public int swear(int person, int oath, int day, int cost) {
        boolean told = isPerson(person) && isSuch(oath, day) && cost >= 0 && cost <= MAX_PRICE;
        if (!told || annals.swornCount() >= MAX_SWORN) {
            return NONE;
        }
        annals.addSworn(person, oath, day, cost);
        court.review();
        return annals.swornCount();
    }

    public int sworn(int i, int what) {
        return annals.swornPart(i, what);
    }

    public int fact(int deed, int day, boolean is) {
        if (!land.hasDate(deed, day) || annals.factCount() >= MAX_FACTS) {
            return NONE;
        }
        annals.addFact(deed, day, is);
        court.review();
        return annals.factCount();
    }

    public int undo() {
        if (annals.actCount() == 0) {
            return NONE;
        }
        annals.dropAct();
        court.review();
        return annals.actCount();
    }

    public int lives(boolean fit, int i) {
        if (!land.isThere()) {
            return NONE;
        }
        long[] row = fit ? court.fitting() : court.possible();
        return i == NONE ? Rows.size(row, land.words()) : land.numberAt(Rows.pick(row, land.words(), i));
    }

    public int holds(int oath, int day, int life) {
        int place = land.placeOf(life);
        if (!isSuch(oath, day) || place == NONE) {
            return NONE;
        }
        long word = court.wordOf(oath, day, annals.allSworn(), place >> 6);
        return (int) (word >>> (place & 63) & 1L);
    }

    public int when(int deed) {
        return land.hasDeed(deed) ? counsel.datesOf(deed) : NONE;
    }

    public int breaks() {
        return land.isThere() ? ledger.firstBreak() : NONE;
    }

    public int clash() {
        return land.isThere() ? ledger.firstClash() : NONE;
    }

    public int may(int day) {
        return land.isDay(day) ? counsel.openOn(day) : NONE;
    }

    public int most(int day, int what) {
        return land.isDay(day) && isZeroOrOne(what) ? counsel.mostAtOnce(day, what) : NONE;
    }

    public int hinders(int day) {
        return land.isDay(day) ? counsel.hindering(day) : NONE;
    }

    public int must(int day) {
        return land.isDay(day) ? counsel.sure(day) : NONE;
    }

    public int care(int oath, int day, int what) {
        boolean told = isSuch(oath, day) && what >= 0 && what <= 2;
        return told ? counsel.careful(oath, day, what) : NONE;
    }

    public int perjured(int what) {
        boolean told = land.isThere() && what >= 0 && what <= 2;
        return told ? ledger.cheapest(what) : NONE;
    }

    public int guilt(int person) {
        int broken = land.isThere() && isPerson(person) ? ledger.cheapest(2) : NONE;
        return broken == NONE ? NONE : Integer.bitCount(broken & annals.swornBy(person));
    }

    public int blame(int what) {
        return land.isThere() && isZeroOrOne(what) ? ledger.toBlame(what) : NONE;
    }

    public int worth(int person, int deed, int day, boolean is) {
        boolean told = isPerson(person) && land.hasDate(deed, day);
        return told ? ledger.worthOf(person, deed, day, is) : HIDDEN;
    }

    public boolean weigh(int deed, int day, int v) {
        if (!land.hasDate(deed, day) || v < 0 || v > MAX_WEIGHT) {
            return false;
        }
        annals.setWeight(deed, day, v);
        return true;
    }

    public long odds(int oath, int day, int part) {
        return isSuch(oath, day) && isZeroOrOne(part) ? chances.oddsOf(oath, day, part) : NONE;
    }

    public int question(int what) {
        return land.isThere() && isZeroOrOne(what) ? chances.bestQuestion(what) : NONE;
    }

    public int settled(int oath, int day) {
        return isSuch(oath, day) ? counsel.settlement(oath, day) : NONE;
    }

    public int rings(int life, int i) {
        int place = land.placeOf(life);
        return place == NONE ? NONE : ledger.ringsAt(place, i);
    }

    public int fall(int what) {
        return land.isThere() && isZeroOrOne(what) ? ledger.leastFall(what) : NONE;
    }

    public boolean stake(int oath, int v) {
        if (!oaths.has(oath) || v < 0 || v > MAX_PRICE) {
            return false;
        }
        oaths.setGain(oath, v);
        return true;
    }

    public int duel(int day, int price, int i) {
        if (!land.isDay(day) || !isPrice(price)) {
            return NONE;
        }
        game.prepare(day, price);
        return game.restAt(i);
    }

    public int bait(int day, int price) {
        if (!land.isDay(day) || !isPrice(price)) {
            return NONE;
        }
        game.prepare(day, price);
        return game.bestBait();
    }

    public int plan(int oath, int day, int what) {
        return isSuch(oath, day) && isZeroOrOne(what) ? counsel.leastPlan(oath, day, what) : NONE;
    }

    public int implies(int one, int other, int day) {
        return isSuch(one, day) && oaths.has(other) ? counsel.follows(one, other, day) : NONE;
    }

    public int same(int oath, int day) {
        return isSuch(oath, day) ? counsel.alike(oath, day) : NONE;
    }

    public int days(int oath) {
        return land.isThere() && oaths.has(oath) ? counsel.openDays(oath) : NONE;
    }

    public int near(int life, int what) {
        int place = land.placeOf(life);
        return place != NONE && isZeroOrOne(what) ? chances.nearest(place, what) : NONE;
    }

    public int alibi(int person, int day) {
        boolean told = isPerson(person) && day >= 0 && day < land.dayCount();
        return told ? chances.alibiOf(person, day) : NONE;
    }

    public int hands() {
        return land.isThere() ? chances.sureHands() : NONE;
    }

    public long mean(int part) {
        return land.isThere() && isZeroOrOne(part) ? chances.meanDone(part) : NONE;
    }

    public int likeliest() {
        return land.isThere() ? chances.heaviest() : NONE;
    }

    public int drawn(long seed) {
        return land.isThere() ? chances.drawnBy(seed) : NONE;
    }

    public int busy(int what) {
        return land.isThere() && isZeroOrOne(what) ? chances.busiest(what) : NONE;
    }

    public int rows(int one, int other, int what) {
        boolean told = land.hasDeed(one) && land.hasDeed(other) && one != other;
        return told && what >= 0 && what <= 2 ? chances.ordered(one, other, what) : NONE;
    }

    public int image() {
        if (!land.isThere()) {
            return NONE;
        }
        kept.copyOf(annals);
        hasImage = true;
        return annals.actCount();
    }

    public int back() {
        if (!hasImage) {
            return NONE;
        }
        annals.copyOf(kept);
        court.review();
        return annals.actCount();
    }

    public int count(int what) {
        switch (what) {
            case 0: return land.deedCount();
            case 1: return land.dayCount();
            case 2: return oaths.size();
            case 3: return tape.length();
            case 4: return annals.swornCount();
            case 5: return annals.factCount();
            case 6: return annals.actCount();
            default: return HIDDEN;
        }
    }

    /** An oath that there is and a day on which it can be sworn (none without a land). */
    private boolean isSuch(int oath, int day) {
        return oaths.has(oath) && land.isDay(day);
    }

    private static boolean isPerson(int person) {
        return person >= 0 && person < PERSONS;
    }

    private static boolean isPrice(int price) {
        return price >= 0 && price <= MAX_PRICE;
    }

    private static boolean isZeroOrOne(int what) {
        return what == 0 || what == 1;
    }

    /** The bytes that are fed, and a place in them from which texts are read. */
    static final class Tape {
        private final int[] bytes = new int[TAPE_BYTES];
        private int length;
        private int place;

        int length() {
            return length;
        }

        int take(int a, int b, int c, int d, int e) {
            int more = signsIn(a) + signsIn(b) + signsIn(c) + signsIn(d) + signsIn(e);
            if (length + more > TAPE_BYTES) {
                return NONE;
            }
            put(a);
            put(b);
            put(c);
            put(d);
            put(e);
            return length;
        }

        boolean cut(int n) {
            if (n < 0 || n > length) {
                return false;
            }
            length = n;
            return true;
        }

        void rewind() {
            place = 0;
        }

        /** The next sign that is no blank; 0 at the end. */
        int sign() {
            while (place >= 0 && place < length && place < TAPE_BYTES && bytes[place] == ' ') {
                place++;
            }
            return place >= 0 && place < length && place < TAPE_BYTES ? bytes[place] : 0;
        }

        /** Where the next sign stands: the fault, if it can't go on there. */
        int spot() {
            return sign() == 0 ? length : place;
        }

        boolean isAtEnd() {
            return sign() == 0;
        }

        void step() {
            if (place < length) {
                place++;
            }
        }

        boolean passes(int wanted) {
            if (sign() != wanted) {
                return false;
            }
            step();
            return true;
        }

        /** The digit that is read, or NONE if there is none from low to high. */
        int digit(int low, int high) {
            int value = sign() - '0';
            if (value < low || value > high) {
                return NONE;
            }
            step();
            return value;
        }

        /** The deed whose letter is read, or NONE. */
        int letter() {
            int value = sign() - 'a';
            if (value < 0 || value >= MAX_DEEDS) {
                return NONE;
            }
            step();
            return value;
        }

        private static int signsIn(int number) {
            int signs = 0;
            for (int shift = 24; shift >= 0; shift -= 8) {
                signs += (number >>> shift & 255) == 0 ? 0 : 1;
            }
            return signs;
        }

        private void put(int number) {
            for (int shift = 24; shift >= 0; shift -= 8) {
                int sign = number >>> shift & 255;
                if (sign != 0 && length >= 0 && length < TAPE_BYTES) {
                    bytes[length] = sign;
                    length++;
                }
            }
        }
    }

    /** Reads the text of a land into a draft, so that a faulty one changes nothing. */
    static final class LandReader {
        static final int DOER = 0;
        static final int FROM = 1;
        static final int LAST = 2;
        static final int TRAITS = 3;
        private static final int MAX_PERSON = 5;
        private static final int MIN_DAYS = 2;

        private final int[] traits = new int[MAX_DEEDS * TRAITS];
        private int days;
        private int deeds;

        int dayCount() {
            return days;
        }

        int deedCount() {
            return deeds;
        }

        int trait(int deed, int what) {
            int at = deed * TRAITS + what;
            return at >= 0 && at < traits.length ? traits[at] : 0;
        }

        /** The fault, or NONE. */
        int read(Tape tape) {
            tape.rewind();
            if (!tape.passes('t')) {
                return tape.spot();
            }
            days = tape.digit(MIN_DAYS, MAX_DAYS);
            if (days == NONE) {
                return tape.spot();
            }
            for (int deed = 0; deed < MAX_DEEDS; deed++) {
                if (!tape.passes(';') || !tape.passes('e') || !readItems(tape, deed)) {
                    return tape.spot();
                }
                deeds = deed + 1;
                if (tape.isAtEnd()) {
                    return NONE;
                }
            }
            return tape.spot();
        }

        private boolean readItems(Tape tape, int deed) {
            set(deed, DOER, 0);
            set(deed, FROM, 0);
            set(deed, LAST, days - 1);
            int told = 0;
            for (int items = 0; items <= TRAITS; items++) {
                int what = traitOf(tape.sign());
                if (what == NONE) {
                    return true;
                }
                if ((told >> what & 1) != 0) {
                    return false;
                }
                told |= 1 << what;
                tape.step();
                int value = tape.digit(lowOf(deed, what), highOf(deed, what));
                if (value == NONE) {
                    return false;
                }
                set(deed, what, value);
            }
            return false;
        }

        private static int traitOf(int sign) {
            switch (sign) {
                case 'p': return DOER;
                case 'f': return FROM;
                case 'l': return LAST;
                default: return NONE;
            }
        }

        private int lowOf(int deed, int what) {
            return what == LAST ? trait(deed, FROM) : 0;
        }

        /** The last day of a deed stands below the days, told or not, so it bounds its first one. */
        private int highOf(int deed, int what) {
            if (what == DOER) {
                return MAX_PERSON;
            }
            return what == FROM ? trait(deed, LAST) : days - 1;
        }

        private void set(int deed, int what, int value) {
            int at = deed * TRAITS + what;
            if (at >= 0 && at < traits.length) {
                traits[at] = value;
            }
        }
    }

    /** The oaths as codes in the order in which a stack takes them; behind the last one, the draft. */
    static final class Oaths {
        static final int BY = 0;
        static final int BEFORE = 1;
        static final int TOGETHER = 2;
        static final int THERE = 3;
        static final int NOT = 4;
        static final int AND = 5;
        static final int OR = 6;
        private static final int DEEPEST = 6;
        private static final int LAST_DIGIT = 5;

        private final int[][] codes = new int[MAX_OATHS + 1][TAPE_BYTES];
        private final int[] lengths = new int[MAX_OATHS + 1];
        private final int[] named = new int[MAX_OATHS + 1];
        private final int[] gains = new int[MAX_OATHS];
        private int count;

        int size() {
            return count;
        }

        boolean has(int oath) {
            return oath >= 0 && oath < count && oath < MAX_OATHS;
        }

        int length(int oath) {
            return has(oath) ? lengths[oath] : 0;
        }

        int codeAt(int oath, int i) {
            return has(oath) && i >= 0 && i < TAPE_BYTES ? codes[oath][i] : 0;
        }

        /** Which sworn ones it names by #, as bits. */
        int named(int oath) {
            return has(oath) ? named[oath] : 0;
        }

        int gain(int oath) {
            return has(oath) ? gains[oath] : 0;
        }

        void setGain(int oath, int v) {
            if (has(oath)) {
                gains[oath] = v;
            }
        }

        int keepDraft() {
            if (count >= MAX_OATHS) {
                return NONE;
            }
            count++;
            return count - 1;
        }

        static int kindOf(int code) {
            return code >> 8;
        }

        static int oneOf(int code) {
            return code >> 4 & 15;
        }

        static int otherOf(int code) {
            return code & 15;
        }

        /** Reads into the draft: the fault, or NONE. */
        int read(Tape tape) {
            tape.rewind();
            lengths[draft()] = 0;
            named[draft()] = 0;
            if (!readChoices(tape, 0) || !tape.isAtEnd()) {
                return tape.spot();
            }
            return NONE;
        }

        private boolean readChoices(Tape tape, int depth) {
            boolean fine = readChoice(tape, depth);
            for (int more = 0; fine && more < TAPE_BYTES && tape.passes('|'); more++) {
                fine = readChoice(tape, depth);
                put(OR, 0, 0);
            }
            return fine;
        }

        private boolean readChoice(Tape tape, int depth) {
            boolean fine = readUnit(tape, depth);
            for (int more = 0; fine && more < TAPE_BYTES && tape.passes('&'); more++) {
                fine = readUnit(tape, depth);
                put(AND, 0, 0);
            }
            return fine;
        }

        private boolean readUnit(Tape tape, int depth) {
            int sign = tape.sign();
            if (sign == '!' || sign == '(') {
                if (depth >= DEEPEST) {
                    return false;
                }
                tape.step();
                if (sign == '(') {
                    return readChoices(tape, depth + 1) && tape.passes(')');
                }
                boolean fine = readUnit(tape, depth + 1);
                put(NOT, 0, 0);
                return fine;
            }
            if (sign == '#') {
                tape.step();
                int k = tape.digit(0, MAX_SWORN - 1);
                return k != NONE && putThere(k);
            }
            int deed = tape.letter();
            return deed != NONE && readRest(tape, deed);
        }

        /** What may stand behind a deed's letter. */
        private boolean readRest(Tape tape, int deed) {
            int sign = tape.sign();
            if (sign == '<' || sign == '=') {
                tape.step();
                int other = tape.letter();
                return other != NONE && put(sign == '<' ? BEFORE : TOGETHER, deed, other);
            }
            if (sign < '0' || sign > '9') {
                return put(BY, deed, LAST_DIGIT);
            }
            int day = tape.digit(0, LAST_DIGIT);
            return day != NONE && put(BY, deed, day);
        }

        /** The row behind the last oath. */
        private int draft() {
            return count >= 0 && count < lengths.length ? count : 0;
        }

        private boolean putThere(int k) {
            named[draft()] |= 1 << k;
            return put(THERE, k, 0);
        }

        private boolean put(int kind, int one, int other) {
            int draft = draft();
            int at = lengths[draft];
            if (at < 0 || at >= TAPE_BYTES) {
                return false;
            }
            codes[draft][at] = kind << 8 | one << 4 | other;
            lengths[draft] = at + 1;
            return true;
        }
    }

    /** The deeds and all lives of a land: a life's place is its rank among them by its number. */
    static final class Land {
        private static final int SIGHTS = MAX_DAYS + 1;

        private final int[] traits = new int[MAX_DEEDS * LandReader.TRAITS];
        private final int[] options = new int[MAX_DEEDS];
        private final int[] strides = new int[MAX_DEEDS];
        private final long[][] seen = new long[MAX_DEEDS * SIGHTS][ROW_WORDS];
        private int days;
        private int deeds;
        private int total;

        boolean isThere() {
            return deeds > 0;
        }

        int dayCount() {
            return days;
        }

        int deedCount() {
            return deeds;
        }

        int total() {
            return total;
        }

        int words() {
            return total + 63 >> 6;
        }

        boolean hasDeed(int deed) {
            return deed >= 0 && deed < deeds && deed < MAX_DEEDS;
        }

        /** A day on which an oath can be sworn. */
        boolean isDay(int day) {
            return deeds > 0 && day >= 0 && day <= days;
        }

        /** A deed, and a day of the land or never. */
        boolean hasDate(int deed, int day) {
            return hasDeed(deed) && (day == NEVER || day >= 0 && day < days);
        }

        int trait(int deed, int what) {
            int at = deed * LandReader.TRAITS + what;
            return at >= 0 && at < traits.length ? traits[at] : 0;
        }

        int options(int deed) {
            return hasDeed(deed) ? options[deed] : 0;
        }

        int stride(int deed) {
            return hasDeed(deed) ? strides[deed] : 0;
        }

        /** The day of a deed's option: from its first day on, never behind its last one. */
        int dayOf(int deed, int option) {
            int day = trait(deed, LandReader.FROM) + option;
            return day <= trait(deed, LandReader.LAST) ? day : NEVER;
        }

        int dayAt(int place, int deed) {
            if (!hasDeed(deed) || place < 0 || strides[deed] <= 0 || options[deed] <= 0) {
                return NEVER;
            }
            return dayOf(deed, place / strides[deed] % options[deed]);
        }

        int numberAt(int place) {
            if (place < 0 || place >= total) {
                return NONE;
            }
            int number = 0;
            for (int deed = 0; deed < deeds; deed++) {
                number = number * 10 + dayAt(place, deed);
            }
            return number;
        }

        /** NONE for a number that is no life of this land. */
        int placeOf(int number) {
            if (number < 0 || deeds == 0) {
                return NONE;
            }
            int place = 0;
            int rest = number;
            for (int deed = deeds - 1; deed >= 0; deed--) {
                int option = optionOf(deed, rest % 10);
                if (option == NONE) {
                    return NONE;
                }
                place += option * stride(deed);
                rest /= 10;
            }
            return rest == 0 ? place : NONE;
        }

        /** The lives (64 of them at once) in which a deed is done as seen on a day. */
        long seenWord(int deed, int day, int w) {
            if (!hasDeed(deed) || day < 0 || day >= SIGHTS || w < 0 || w >= ROW_WORDS) {
                return 0L;
            }
            return seen[deed * SIGHTS + day][w];
        }

        /** Lives in which a deed is done on a day, or (by NEVER) not at all. */
        long dateWord(int deed, int day, int w) {
            if (day == NEVER) {
                return ~seenWord(deed, days, w);
            }
            return seenWord(deed, day + 1, w) & ~seenWord(deed, day, w);
        }

        /** Lives in which both are done as seen on a day, the one on an earlier day. */
        long beforeWord(int one, int other, int day, int w) {
            if (!hasDeed(one) || !hasDeed(other) || w < 0 || w >= ROW_WORDS) {
                return 0L;
            }
            long word = 0L;
            for (int k = 1; k < day && k < MAX_DAYS; k++) {
                long onDay = seen[other * SIGHTS + k + 1][w] & ~seen[other * SIGHTS + k][w];
                word |= onDay & seen[one * SIGHTS + k][w];
            }
            return word;
        }

        /** Lives in which both are done as seen on a day, on one day. */
        long togetherWord(int one, int other, int day, int w) {
            if (!hasDeed(one) || !hasDeed(other) || w < 0 || w >= ROW_WORDS) {
                return 0L;
            }
            long word = 0L;
            for (int k = 0; k < day && k < MAX_DAYS; k++) {
                long onDay = seen[other * SIGHTS + k + 1][w] & ~seen[other * SIGHTS + k][w];
                word |= onDay & seen[one * SIGHTS + k + 1][w] & ~seen[one * SIGHTS + k][w];
            }
            return word;
        }

        void settle(LandReader draft) {
            days = draft.dayCount();
            deeds = draft.deedCount();
            for (int deed = 0; deed < MAX_DEEDS; deed++) {
                for (int what = 0; what < LandReader.TRAITS; what++) {
                    traits[deed * LandReader.TRAITS + what] = draft.trait(deed, what);
                }
            }
            total = 1;
            for (int deed = deeds - 1; deed >= 0; deed--) {
                if (deed < MAX_DEEDS) {
                    strides[deed] = total;
                    options[deed] = trait(deed, LandReader.LAST) - trait(deed, LandReader.FROM) + 2;
                    total *= options[deed];
                }
            }
            for (int deed = 0; deed < deeds; deed++) {
                watch(deed);
            }
        }

        private int optionOf(int deed, int day) {
            if (day == NEVER) {
                return options(deed) - 1;
            }
            int from = trait(deed, LandReader.FROM);
            return day >= from && day <= trait(deed, LandReader.LAST) ? day - from : NONE;
        }

        /** Fills what is seen of a deed: the lives of each of its days, then those of all days ahead. */
        private void watch(int deed) {
            for (int day = 0; day < SIGHTS; day++) {
                Rows.clear(sight(deed, day));
            }
            int round = stride(deed) * options(deed);
            for (int base = 0; round > 0 && base < total; base += round) {
                for (int option = 0; option < options(deed) - 1; option++) {
                    int from = base + option * stride(deed);
                    Rows.fill(sight(deed, dayOf(deed, option) + 1), from, from + stride(deed));
                }
            }
            for (int day = 1; day < SIGHTS; day++) {
                Rows.join(sight(deed, day), sight(deed, day - 1), words());
            }
        }

        private long[] sight(int deed, int day) {
            int at = deed * SIGHTS + day;
            return seen[at >= 0 && at < seen.length ? at : 0];
        }
    }

    /** Rows of bits, one for each life; what is asked of them, up to so many words. */
    static final class Rows {
        static void clear(long[] row) {
            Arrays.fill(row, 0L);
        }

        /** Sets all bits from one on, up to another one. */
        static void fill(long[] row, int from, int to) {
            for (int at = from; at < to; at = (at >> 6) + 1 << 6) {
                int w = at >> 6;
                long mask = -1L << (at & 63);
                if (to - (w << 6) < 64) {
                    mask &= ~(-1L << (to & 63));
                }
                if (w >= 0 && w < row.length) {
                    row[w] |= mask;
                }
            }
        }

        static void join(long[] row, long[] more, int words) {
            for (int w = 0; w < words && w < row.length && w < more.length; w++) {
                row[w] |= more[w];
            }
        }

        static void copy(long[] from, long[] to) {
            if (from.length == to.length) {
                System.arraycopy(from, 0, to, 0, from.length);
            }
        }

        static long word(long[] row, int w) {
            return w >= 0 && w < row.length ? row[w] : 0L;
        }

        static boolean has(long[] row, int place) {
            return (word(row, place >> 6) >>> (place & 63) & 1L) != 0L;
        }

        static boolean isEmpty(long[] row, int words) {
            return meetsNot(row, row, row, words);
        }

        static int size(long[] row, int words) {
            int size = 0;
            for (int w = 0; w < words && w < row.length; w++) {
                size += Long.bitCount(row[w]);
            }
            return size;
        }

        /** The place of the i-th one, or NONE. */
        static int pick(long[] row, int words, int i) {
            int ahead = 0;
            for (int w = 0; i >= 0 && w < words && w < row.length; w++) {
                int here = Long.bitCount(row[w]);
                if (i < ahead + here) {
                    return (w << 6) + bitAt(row[w], i - ahead);
                }
                ahead += here;
            }
            return NONE;
        }

        static boolean meetsNot(long[] row, long[] other, long[] third, int words) {
            for (int w = 0; w < words && w < row.length && w < other.length && w < third.length; w++) {
                if ((row[w] & other[w] & third[w]) != 0L) {
                    return false;
                }
            }
            return true;
        }

        static boolean isWithin(long[] row, long[] other, int words) {
            for (int w = 0; w < words && w < row.length && w < other.length; w++) {
                if ((row[w] & ~other[w]) != 0L) {
                    return false;
                }
            }
            return true;
        }

        /** Levels count 64 lives at once: the k-th one has those that are in k added words, or more. */
        static void startLevels(long[] levels, long lives) {
            Arrays.fill(levels, 0L);
            if (levels.length > 0) {
                levels[0] = lives;
            }
        }

        static void addLevel(long[] levels, long word) {
            for (int k = levels.length - 2; k >= 0; k--) {
                levels[k + 1] |= levels[k] & word;
            }
        }

        /** The highest level with a life; NONE if there was none to start with. */
        static int topLevel(long[] levels) {
            for (int k = levels.length - 1; k >= 0; k--) {
                if (levels[k] != 0L) {
                    return k;
                }
            }
            return NONE;
        }

        static int firstPlace(long lives, int w) {
            return (w << 6) + Long.numberOfTrailingZeros(lives);
        }

        private static int bitAt(long word, int i) {
            long left = word;
            for (int k = 0; k < i && k < 64; k++) {
                left &= left - 1L;
            }
            return Long.numberOfTrailingZeros(left);
        }
    }

    /** What was done: sworn ones, facts and their order, with the weights beside them. */
    static final class Annals {
        private static final int PARTS = 4;
        private static final int ACT_SWORN = 1;
        private static final int ACT_FACT = 2;

        private final int[] sworn = new int[MAX_SWORN * PARTS];
        private final int[] factDeeds = new int[MAX_FACTS];
        private final int[] factDays = new int[MAX_FACTS];
        private final boolean[] factTruths = new boolean[MAX_FACTS];
        private final int[] acts = new int[MAX_SWORN + MAX_FACTS];
        private final int[] weights = new int[MAX_DEEDS * DATES];
        private int swornCount;
        private int factCount;

        Annals() {
            Arrays.fill(weights, 1);
        }

        void clear() {
            swornCount = 0;
            factCount = 0;
            Arrays.fill(weights, 1);
        }

        void copyOf(Annals other) {
            System.arraycopy(other.sworn, 0, sworn, 0, sworn.length);
            System.arraycopy(other.factDeeds, 0, factDeeds, 0, factDeeds.length);
            System.arraycopy(other.factDays, 0, factDays, 0, factDays.length);
            for (int i = 0; i < MAX_FACTS; i++) {
                factTruths[i] = other.factTruths[i];
            }
            System.arraycopy(other.acts, 0, acts, 0, acts.length);
            System.arraycopy(other.weights, 0, weights, 0, weights.length);
            swornCount = other.swornCount;
            factCount = other.factCount;
        }

        int swornCount() {
            return swornCount;
        }

        int factCount() {
            return factCount;
        }

        int actCount() {
            return swornCount + factCount;
        }

        /** All that is sworn, as bits. */
        int allSworn() {
            return (1 << swornCount) - 1;
        }

        void addSworn(int person, int oath, int day, int cost) {
            int at = swornCount * PARTS;
            if (at >= 0 && at + PARTS <= sworn.length && addAct(ACT_SWORN)) {
                sworn[at] = person;
                sworn[at + 1] = oath;
                sworn[at + 2] = day;
                sworn[at + 3] = cost;
                swornCount++;
            }
        }

        void addFact(int deed, int day, boolean is) {
            int at = factCount;
            if (at >= 0 && at < MAX_FACTS && addAct(ACT_FACT)) {
                factDeeds[at] = deed;
                factDays[at] = day;
                factTruths[at] = is;
                factCount++;
            }
        }

        private boolean addAct(int kind) {
            int at = actCount();
            if (at < 0 || at >= acts.length) {
                return false;
            }
            acts[at] = kind;
            return true;
        }

        void dropAct() {
            int last = actCount() - 1;
            if (last < 0 || last >= acts.length) {
                return;
            }
            if (acts[last] == ACT_SWORN) {
                swornCount--;
            } else {
                factCount--;
            }
        }

        int swornPart(int i, int what) {
            if (i < 0 || i >= swornCount || i >= MAX_SWORN || what < 0 || what >= PARTS) {
                return NONE;
            }
            return sworn[i * PARTS + what];
        }

        int personOf(int i) {
            return swornPart(i, 0);
        }

        int oathOf(int i) {
            return swornPart(i, 1);
        }

        int dayOf(int i) {
            return swornPart(i, 2);
        }

        int costOf(int i) {
            return swornPart(i, 3);
        }

        /** What a person has sworn, as bits. */
        int swornBy(int person) {
            int own = 0;
            for (int i = 0; i < swornCount; i++) {
                own |= personOf(i) == person ? 1 << i : 0;
            }
            return own;
        }

        int factDeed(int i) {
            return i >= 0 && i < MAX_FACTS ? factDeeds[i] : NONE;
        }

        int factDay(int i) {
            return i >= 0 && i < MAX_FACTS ? factDays[i] : NONE;
        }

        boolean factTruth(int i) {
            return i >= 0 && i < MAX_FACTS && factTruths[i];
        }

        int weight(int deed, int day) {
            int at = deed * DATES + day;
            return at >= 0 && at < weights.length ? weights[at] : 0;
        }

        void setWeight(int deed, int day, int v) {
            int at = deed * DATES + day;
            if (at >= 0 && at < weights.length) {
                weights[at] = v;
            }
        }
    }

    /** In which lives an oath holds, and the lives that are possible and that fit. */
    static final class Court {
        /** Each of seven levels of ( leaves two words waiting at most, one for | and one for &. */
        private static final int STACK = 16;

        private final Land land;
        private final Oaths oaths;
        private final Annals annals;
        private final long[] stack = new long[STACK];
        private final long[] possible = new long[ROW_WORDS];
        private final long[] fitting = new long[ROW_WORDS];
        private final long[][] swornRows = new long[MAX_SWORN][ROW_WORDS];

        Court(Land land, Oaths oaths, Annals annals) {
            this.land = land;
            this.oaths = oaths;
            this.annals = annals;
        }

        long[] possible() {
            return possible;
        }

        long[] fitting() {
            return fitting;
        }

        /** To be called whenever the land, the facts or the sworn ones have changed. */
        void review() {
            Rows.clear(possible);
            Rows.fill(possible, 0, land.total());
            for (int i = 0; i < annals.factCount(); i++) {
                narrow(possible, annals.factDeed(i), annals.factDay(i), annals.factTruth(i));
            }
            Rows.copy(possible, fitting);
            for (int i = 0; i < annals.swornCount(); i++) {
                admit(i);
            }
        }

        /** The lives (64 at once) in which a sworn one holds, if just those are there for #. */
        long swornWord(int i, int there, int w) {
            int oath = annals.oathOf(i);
            boolean isAsNow = (oaths.named(oath) & annals.allSworn() & ~there) == 0;
            if (isAsNow && i >= 0 && i < MAX_SWORN) {
                return Rows.word(swornRows[i], w);
            }
            return wordOf(oath, annals.dayOf(i), there, w);
        }

        /** The possible lives in which an oath holds on a day. */
        void hear(int oath, int day, long[] row) {
            int there = annals.allSworn();
            for (int w = 0; w < land.words() && w < row.length && w < ROW_WORDS; w++) {
                row[w] = wordOf(oath, day, there, w) & possible[w];
            }
        }

        /** Leaves those lives alone for which a fact is so. */
        void narrow(long[] row, int deed, int day, boolean is) {
            for (int w = 0; w < land.words() && w < row.length; w++) {
                long word = land.dateWord(deed, day, w);
                row[w] &= is ? word : ~word;
            }
        }

        /** The lives (64 at once) in which an oath holds; bits behind the last life mean nothing. */
        long wordOf(int oath, int day, int there, int w) {
            int top = 0;
            for (int i = 0; i < oaths.length(oath); i++) {
                int code = oaths.codeAt(oath, i);
                int one = Oaths.oneOf(code);
                int other = Oaths.otherOf(code);
                switch (Oaths.kindOf(code)) {
                    case Oaths.BY:
                        put(top++, land.seenWord(one, Math.min(day, other + 1), w));
                        break;
                    case Oaths.BEFORE:
                        put(top++, land.beforeWord(one, other, day, w));
                        break;
                    case Oaths.TOGETHER:
                        put(top++, land.togetherWord(one, other, day, w));
                        break;
                    case Oaths.THERE:
                        put(top++, (there >> one & 1) == 0 ? 0L : -1L);
                        break;
                    case Oaths.NOT:
                        turn(top - 1);
                        break;
                    default:
                        top--;
                        merge(top - 1, Oaths.kindOf(code) == Oaths.AND);
                        break;
                }
            }
            return stack[0];
        }

        private void put(int at, long word) {
            if (at >= 0 && at < STACK) {
                stack[at] = word;
            }
        }

        private void turn(int at) {
            if (at >= 0 && at < STACK) {
                stack[at] = ~stack[at];
            }
        }

        private void merge(int at, boolean both) {
            if (at >= 0 && at + 1 < STACK) {
                long one = stack[at];
                long other = stack[at + 1];
                stack[at] = both ? one & other : one | other;
            }
        }

        private void admit(int i) {
            int there = annals.allSworn();
            for (int w = 0; i >= 0 && i < MAX_SWORN && w < land.words() && w < ROW_WORDS; w++) {
                long word = wordOf(annals.oathOf(i), annals.dayOf(i), there, w);
                swornRows[i][w] = word;
                fitting[w] &= word;
            }
        }
    }

    /** What may be sworn, what is sure, and what it takes. */
    static final class Counsel {
        private final Land land;
        private final Oaths oaths;
        private final Court court;
        private final long[] levels = new long[LEVELS];
        private final long[][] heard = new long[MAX_OATHS][ROW_WORDS];

        Counsel(Land land, Oaths oaths, Court court) {
            this.land = land;
            this.oaths = oaths;
            this.court = court;
        }

        /** Hears all oaths on a day; the answers below go by what was heard last. */
        void hearAll(int day) {
            for (int oath = 0; oath < oaths.size() && oath < MAX_OATHS; oath++) {
                court.hear(oath, day, heard[oath]);
            }
        }

        boolean canBoth(int one, int other) {
            return !Rows.meetsNot(court.fitting(), rowOf(one), rowOf(other), land.words());
        }

        boolean canBe(int oath) {
            return canBoth(oath, oath);
        }

        int datesOf(int deed) {
            int dates = 0;
            for (int day = 0; day <= NEVER; day++) {
                dates |= land.hasDate(deed, day) && isDone(deed, day) ? 1 << day : 0;
            }
            return dates;
        }

        int openOn(int day) {
            hearAll(day);
            return openAsHeard();
        }

        private int openAsHeard() {
            int open = 0;
            for (int oath = 0; oath < oaths.size(); oath++) {
                open |= canBe(oath) ? 1 << oath : 0;
            }
            return open;
        }

        int openDays(int oath) {
            int open = 0;
            for (int day = 0; day <= land.dayCount(); day++) {
                court.hear(oath, day, rowOf(oath));
                open |= canBe(oath) ? 1 << day : 0;
            }
            return open;
        }

        int mostAtOnce(int day, int what) {
            hearAll(day);
            int most = NONE;
            int which = NONE;
            for (int w = 0; w < land.words(); w++) {
                Rows.startLevels(levels, Rows.word(court.fitting(), w));
                for (int oath = 0; oath < oaths.size(); oath++) {
                    Rows.addLevel(levels, Rows.word(rowOf(oath), w));
                }
                int top = Rows.topLevel(levels);
                if (top != NONE && top >= most) {
                    int bits = leastBits(Rows.word(levels, top), w);
                    which = top > most || bits < which ? bits : which;
                    most = top;
                }
            }
            return what == 0 ? most : which;
        }

        int hindering(int day) {
            hearAll(day);
            int open = openAsHeard();
            int pairs = 0;
            for (int one = 0; one < oaths.size(); one++) {
                for (int other = one + 1; other < oaths.size(); other++) {
                    boolean each = (open >> one & open >> other & 1) != 0;
                    pairs += each && !canBoth(one, other) ? 1 : 0;
                }
            }
            return pairs;
        }

        int sure(int day) {
            hearAll(day);
            int sure = 0;
            for (int oath = 0; oath < oaths.size(); oath++) {
                sure |= Rows.isWithin(court.fitting(), rowOf(oath), land.words()) ? 1 << oath : 0;
            }
            return sure;
        }

        int settlement(int oath, int day) {
            court.hear(oath, day, rowOf(oath));
            if (Rows.isEmpty(court.fitting(), land.words())) {
                return NONE;
            }
            if (!canBe(oath)) {
                return 0;
            }
            return Rows.isWithin(court.fitting(), rowOf(oath), land.words()) ? 1 : 2;
        }

        int careful(int oath, int day, int what) {
            court.hear(oath, day, rowOf(oath));
            if (!canBe(oath)) {
                return NONE;
            }
            return what == 2 ? keptOpen(oath) : leastDone(oath, day, what);
        }

        int leastPlan(int oath, int day, int what) {
            hearAll(day);
            for (int size = 0; size < oaths.size(); size++) {
                for (int set = 0; set < 1 << oaths.size(); set++) {
                    boolean others = Integer.bitCount(set) == size && (set >> oath & 1) == 0;
                    if (others && isPlan(set, oath)) {
                        return what == 0 ? size : set;
                    }
                }
            }
            return NONE;
        }

        int follows(int one, int other, int day) {
            hearAll(day);
            return Rows.isWithin(rowOf(one), rowOf(other), land.words()) ? 1 : 0;
        }

        int alike(int oath, int day) {
            hearAll(day);
            int same = 0;
            for (int other = 0; other < oaths.size(); other++) {
                boolean both = Rows.isWithin(rowOf(oath), rowOf(other), land.words())
                        && Rows.isWithin(rowOf(other), rowOf(oath), land.words());
                same |= both ? 1 << other : 0;
            }
            return same;
        }

        private long[] rowOf(int oath) {
            return heard[oath >= 0 && oath < MAX_OATHS ? oath : 0];
        }

        private boolean isDone(int deed, int day) {
            for (int w = 0; w < land.words(); w++) {
                if ((Rows.word(court.fitting(), w) & land.dateWord(deed, day, w)) != 0L) {
                    return true;
                }
            }
            return false;
        }

        /** The least set of oaths that holds in one of these lives: the high ones shall fail first. */
        private int leastBits(long lives, int w) {
            int bits = 0;
            long left = lives;
            for (int oath = oaths.size() - 1; oath >= 0; oath--) {
                long without = left & ~Rows.word(rowOf(oath), w);
                bits |= without == 0L ? 1 << oath : 0;
                left = without == 0L ? left : without;
            }
            return bits;
        }

        private int leastDone(int oath, int day, int what) {
            int mostLeft = NONE;
            int place = NONE;
            for (int w = 0; w < land.words(); w++) {
                Rows.startLevels(levels, Rows.word(court.fitting(), w) & Rows.word(rowOf(oath), w));
                for (int deed = 0; deed < land.deedCount(); deed++) {
                    Rows.addLevel(levels, ~land.seenWord(deed, day, w));
                }
                if (Rows.topLevel(levels) > mostLeft) {
                    mostLeft = Rows.topLevel(levels);
                    place = Rows.firstPlace(Rows.word(levels, mostLeft), w);
                }
            }
            return what == 0 ? land.deedCount() - mostLeft : land.numberAt(place);
        }

        private int keptOpen(int oath) {
            int kept = 0;
            for (int w = 0; w < land.words(); w++) {
                long lives = Rows.word(court.fitting(), w) & Rows.word(rowOf(oath), w);
                for (int deed = 0; deed < land.deedCount(); deed++) {
                    kept |= (lives & land.dateWord(deed, NEVER, w)) == 0L ? 0 : 1 << deed;
                }
            }
            return kept;
        }

        /** Whether a set of oaths can hold, and an oath holds wherever it does. */
        private boolean isPlan(int set, int oath) {
            boolean some = false;
            for (int w = 0; w < land.words(); w++) {
                long left = Rows.word(court.fitting(), w);
                for (int other = 0; left != 0L && other < oaths.size(); other++) {
                    left &= (set >> other & 1) == 0 ? -1L : Rows.word(rowOf(other), w);
                }
                if ((left & ~Rows.word(rowOf(oath), w)) != 0L) {
                    return false;
                }
                some = some || left != 0L;
            }
            return some;
        }
    }

    /** What the sworn ones cost, and how they stand to one another. */
    static final class Ledger {
        private static final int TOO_DEAR = 1000000;

        private final Land land;
        private final Oaths oaths;
        private final Annals annals;
        private final Court court;
        private final long[] words = new long[MAX_SWORN];
        private final long[] trial = new long[ROW_WORDS];
        private int leastCost;
        private int leastPlace;

        Ledger(Land land, Oaths oaths, Annals annals, Court court) {
            this.land = land;
            this.oaths = oaths;
            this.annals = annals;
            this.court = court;
        }

        int firstBreak() {
            int all = annals.allSworn();
            Rows.copy(court.possible(), trial);
            for (int i = 0; i < annals.swornCount(); i++) {
                for (int w = 0; w < land.words() && w < ROW_WORDS; w++) {
                    trial[w] &= court.swornWord(i, all, w);
                }
                if (Rows.isEmpty(trial, land.words())) {
                    return i;
                }
            }
            return NONE;
        }

        int firstClash() {
            for (int one = 0; one < annals.swornCount(); one++) {
                for (int other = one + 1; other < annals.swornCount(); other++) {
                    if (canHold(one, one) && canHold(other, other) && !canHold(one, other)) {
                        return 10 * one + other;
                    }
                }
            }
            return NONE;
        }

        int cheapest(int what) {
            int all = annals.allSworn();
            findLeast(court.possible(), all, all);
            if (leastPlace == NONE) {
                return NONE;
            }
            if (what == 2) {
                return all & ~holdingAt(leastPlace, all, all);
            }
            return what == 0 ? leastCost : land.numberAt(leastPlace);
        }

        int toBlame(int what) {
            int all = annals.allSworn();
            int blamed = NONE;
            int cost = NONE;
            for (int person = 0; person < PERSONS; person++) {
                findLeast(court.possible(), all & ~annals.swornBy(person), all);
                if (leastPlace != NONE && (blamed == NONE || leastCost < cost)) {
                    blamed = person;
                    cost = leastCost;
                }
            }
            return what == 0 ? blamed : cost;
        }

        int worthOf(int person, int deed, int day, boolean is) {
            int own = annals.swornBy(person);
            findLeast(court.possible(), own, own);
            if (leastPlace == NONE) {
                return HIDDEN;
            }
            int without = leastCost;
            Rows.copy(court.possible(), trial);
            court.narrow(trial, deed, day, is);
            findLeast(trial, own, own);
            return leastPlace == NONE ? 0 : without - leastCost;
        }

        /** The i-th ring in a life, or how many there are. */
        int ringsAt(int place, int i) {
            int fixed = withoutNames();
            int fixedHolding = holdingAt(place, fixed, 0);
            int rings = 0;
            for (int set = 0; set <= annals.allSworn(); set++) {
                boolean isRing = (set & fixed) == fixedHolding
                        && holdingAt(place, ~fixed, set) == (set & ~fixed);
                if (isRing && rings == i) {
                    return set;
                }
                rings += isRing ? 1 : 0;
            }
            return i == NONE ? rings : NONE;
        }

        int leastFall(int what) {
            if (Rows.isEmpty(court.possible(), land.words())) {
                return NONE;
            }
            int fixed = withoutNames();
            int hopeless = 0;
            for (int i = 0; i < annals.swornCount(); i++) {
                hopeless |= (fixed >> i & 1) != 0 && !canHold(i, i) ? 1 << i : 0;
            }
            for (int size = 0; size <= annals.swornCount(); size++) {
                for (int gone = 0; gone <= annals.allSworn(); gone++) {
                    boolean fair = Integer.bitCount(gone) == size && (hopeless & ~gone) == 0;
                    if (fair && canAllHold(annals.allSworn() & ~gone)) {
                        return what == 0 ? size : gone;
                    }
                }
            }
            return NONE;
        }

        private boolean canHold(int one, int other) {
            int all = annals.allSworn();
            for (int w = 0; w < land.words(); w++) {
                long both = court.swornWord(one, all, w) & court.swornWord(other, all, w);
                if ((both & Rows.word(court.possible(), w)) != 0L) {
                    return true;
                }
            }
            return false;
        }

        private boolean canAllHold(int there) {
            for (int w = 0; w < land.words(); w++) {
                long left = Rows.word(court.possible(), w);
                for (int i = 0; left != 0L && i < annals.swornCount(); i++) {
                    left &= (there >> i & 1) == 0 ? -1L : court.swornWord(i, there, w);
                }
                if (left != 0L) {
                    return true;
                }
            }
            return false;
        }

        /** Sworn ones without any #: they hold or not, whatever else is there. */
        private int withoutNames() {
            int fixed = 0;
            for (int i = 0; i < annals.swornCount(); i++) {
                fixed |= oaths.named(annals.oathOf(i)) == 0 ? 1 << i : 0;
            }
            return fixed;
        }

        /** Which of some sworn ones hold in a life, if just those are there for #. */
        private int holdingAt(int place, int asked, int there) {
            int holding = 0;
            for (int i = 0; i < annals.swornCount(); i++) {
                if ((asked >> i & 1) != 0) {
                    long word = court.swornWord(i, there, place >> 6);
                    holding |= (int) (word >>> (place & 63) & 1L) << i;
                }
            }
            return holding;
        }

        /** Finds the life of a row that breaks the least cost; leastPlace is NONE if there is none. */
        private void findLeast(long[] row, int whose, int there) {
            leastCost = TOO_DEAR;
            leastPlace = NONE;
            for (int w = 0; leastCost > 0 && w < land.words(); w++) {
                long lives = Rows.word(row, w);
                for (int i = 0; lives != 0L && i < annals.swornCount() && i < MAX_SWORN; i++) {
                    words[i] = (whose >> i & 1) == 0 ? -1L : court.swornWord(i, there, w);
                }
                part(lives, w, 0, 0);
            }
        }

        /** Parts the lives of a word by the sworn ones from i on, as far as the cost is not above the least. */
        private void part(long lives, int w, int i, int cost) {
            if (lives == 0L || cost > leastCost) {
                return;
            }
            if (i < 0 || i >= annals.swornCount() || i >= MAX_SWORN) {
                int place = Rows.firstPlace(lives, w);
                if (cost < leastCost || place < leastPlace) {
                    leastCost = cost;
                    leastPlace = place;
                }
                return;
            }
            part(lives & words[i], w, i + 1, cost);
            part(lives & ~words[i], w, i + 1, cost + annals.costOf(i));
        }
    }

    /** Numbers and weights of the lives that fit. */
    static final class Chances {
        private static final long TIMES = 6364136223846793005L;
        private static final long PLUS = 1442695040888963407L;

        private final Land land;
        private final Annals annals;
        private final Court court;
        private final long[] levels = new long[LEVELS];
        private final long[] trial = new long[ROW_WORDS];
        private long greatestProduct;
        private int greatestPlace;

        Chances(Land land, Annals annals, Court court) {
            this.land = land;
            this.annals = annals;
            this.court = court;
        }

        long oddsOf(int oath, int day, int part) {
            court.hear(oath, day, trial);
            long[] fitting = court.fitting();
            for (int w = 0; w < ROW_WORDS; w++) {
                trial[w] &= Rows.word(fitting, w);
            }
            return plain(sum(trial, 0, 0, 1L), sum(fitting, 0, 0, 1L), part);
        }

        long meanDone(int part) {
            return plain(sumDone(court.fitting(), 0, 0, 1L, 0), sum(court.fitting(), 0, 0, 1L), part);
        }

        int bestQuestion(int what) {
            int all = Rows.size(court.fitting(), land.words());
            int best = NONE;
            int bestPart = all;
            for (int deed = 0; deed < land.deedCount(); deed++) {
                for (int day = 0; day < land.dayCount(); day++) {
                    int done = countDone(deed, day + 1);
                    int greater = Math.max(done, all - done);
                    if (greater < bestPart) {
                        best = 10 * deed + day;
                        bestPart = greater;
                    }
                }
            }
            return best == NONE || what == 0 ? best : bestPart;
        }

        int heaviest() {
            greatestProduct = -1L;
            greatestPlace = NONE;
            seekHeaviest(court.fitting(), 0, 0, 1L);
            return land.numberAt(greatestPlace);
        }

        int drawnBy(long seed) {
            int all = Rows.size(court.fitting(), land.words());
            if (all <= 0) {
                return NONE;
            }
            long x = seed * TIMES + PLUS;
            return land.numberAt(Rows.pick(court.fitting(), land.words(), (int) ((x >>> 33) % all)));
        }

        int nearest(int place, int what) {
            int mostAlike = NONE;
            int best = NONE;
            for (int w = 0; w < land.words(); w++) {
                Rows.startLevels(levels, Rows.word(court.fitting(), w));
                for (int deed = 0; deed < land.deedCount(); deed++) {
                    Rows.addLevel(levels, land.dateWord(deed, land.dayAt(place, deed), w));
                }
                if (Rows.topLevel(levels) > mostAlike) {
                    mostAlike = Rows.topLevel(levels);
                    best = Rows.firstPlace(Rows.word(levels, mostAlike), w);
                }
            }
            if (best == NONE) {
                return NONE;
            }
            return what == 0 ? land.deedCount() - mostAlike : land.numberAt(best);
        }

        int busiest(int what) {
            int most = NONE;
            int busyDay = NONE;
            for (int day = 0; day < land.dayCount(); day++) {
                for (int w = 0; w < land.words(); w++) {
                    int top = mostOn(day, w);
                    if (top > most) {
                        most = top;
                        busyDay = day;
                    }
                }
            }
            return what == 0 ? most : most == 0 ? NONE : busyDay;
        }

        int alibiOf(int person, int day) {
            for (int w = 0; w < land.words(); w++) {
                long done = 0L;
                for (int deed = 0; deed < land.deedCount(); deed++) {
                    done |= isDoer(person, deed) ? land.dateWord(deed, day, w) : 0L;
                }
                if ((done & Rows.word(court.fitting(), w)) != 0L) {
                    return 0;
                }
            }
            return 1;
        }

        int sureHands() {
            int hands = 0;
            for (int person = 0; person < PERSONS; person++) {
                hands |= isSureHand(person) ? 1 << person : 0;
            }
            return hands;
        }

        int ordered(int one, int other, int what) {
            int size = 0;
            for (int w = 0; w < land.words(); w++) {
                long word = what == 2 ? land.togetherWord(one, other, land.dayCount(), w)
                        : what == 1 ? land.beforeWord(other, one, land.dayCount(), w)
                        : land.beforeWord(one, other, land.dayCount(), w);
                size += Long.bitCount(word & Rows.word(court.fitting(), w));
            }
            return size;
        }

        private int countDone(int deed, int day) {
            int done = 0;
            for (int w = 0; w < land.words(); w++) {
                done += Long.bitCount(land.seenWord(deed, day, w) & Rows.word(court.fitting(), w));
            }
            return done;
        }

        private int mostOn(int day, int w) {
            Rows.startLevels(levels, Rows.word(court.fitting(), w));
            for (int deed = 0; deed < land.deedCount(); deed++) {
                Rows.addLevel(levels, land.dateWord(deed, day, w));
            }
            return Rows.topLevel(levels);
        }

        private boolean isDoer(int person, int deed) {
            return land.trait(deed, LandReader.DOER) == person;
        }

        private boolean isSureHand(int person) {
            for (int w = 0; w < land.words(); w++) {
                long done = 0L;
                for (int deed = 0; deed < land.deedCount(); deed++) {
                    done |= isDoer(person, deed) ? land.seenWord(deed, land.dayCount(), w) : 0L;
                }
                if ((Rows.word(court.fitting(), w) & ~done) != 0L) {
                    return false;
                }
            }
            return true;
        }

        private int weightOf(int deed, int option) {
            return annals.weight(deed, land.dayOf(deed, option));
        }

        /** The products of weights of a row's lives, from a deed on, together. */
        private long sum(long[] row, int deed, int place, long product) {
            if (!land.hasDeed(deed)) {
                return Rows.has(row, place) ? product : 0L;
            }
            long sum = 0L;
            for (int option = 0; product != 0L && option < land.options(deed); option++) {
                int next = place + option * land.stride(deed);
                sum += sum(row, deed + 1, next, product * weightOf(deed, option));
            }
            return sum;
        }

        /** As sum, each product times the deeds that are done. */
        private long sumDone(long[] row, int deed, int place, long product, int done) {
            if (!land.hasDeed(deed)) {
                return Rows.has(row, place) ? product * done : 0L;
            }
            long sum = 0L;
            for (int option = 0; product != 0L && option < land.options(deed); option++) {
                int next = place + option * land.stride(deed);
                int more = land.dayOf(deed, option) == NEVER ? 0 : 1;
                sum += sumDone(row, deed + 1, next, product * weightOf(deed, option), done + more);
            }
            return sum;
        }

        /** Places come rising, so that of several the first one stays. */
        private void seekHeaviest(long[] row, int deed, int place, long product) {
            if (!land.hasDeed(deed)) {
                if (product > greatestProduct && Rows.has(row, place)) {
                    greatestProduct = product;
                    greatestPlace = place;
                }
                return;
            }
            for (int option = 0; option < land.options(deed); option++) {
                int next = place + option * land.stride(deed);
                seekHeaviest(row, deed + 1, next, product * weightOf(deed, option));
            }
        }

        /** One part of a fraction made plain; NONE if it has 0 below. */
        private static long plain(long above, long below, int part) {
            if (below <= 0L) {
                return NONE;
            }
            long divisor = below;
            long rest = above;
            for (int step = 0; step < 200 && rest > 0L; step++) {
                long next = divisor % rest;
                divisor = rest;
                rest = next;
            }
            return divisor <= 0L ? NONE : (part == 0 ? above : below) / divisor;
        }
    }

    /** Two that swear at once. Choices are the oaths in turn, and behind them to swear none. */
    static final class Game {
        private final Oaths oaths;
        private final Counsel counsel;
        private final int[] together = new int[MAX_OATHS + 1];
        private int price;

        Game(Oaths oaths, Counsel counsel) {
            this.oaths = oaths;
            this.counsel = counsel;
        }

        /**
         * To be called ahead of what is asked below: finds which choices can hold together. Beside
         * one that swears none, the other one's oath alone has to hold.
         */
        void prepare(int day, int pricePaid) {
            price = pricePaid;
            counsel.hearAll(day);
            Arrays.fill(together, 0);
            int none = oaths.size();
            for (int one = 0; one < none && one < MAX_OATHS; one++) {
                for (int other = 0; other < none; other++) {
                    together[one] |= counsel.canBoth(one, other) ? 1 << other : 0;
                }
                together[one] |= counsel.canBe(one) ? 1 << none : 0;
            }
        }

        /** The i-th rest, or how many there are. */
        int restAt(int i) {
            int rests = 0;
            for (int one = 0; one <= oaths.size(); one++) {
                for (int other = 0; other <= oaths.size(); other++) {
                    boolean isRest = isBest(one, other) && isBest(other, one);
                    if (isRest && rests == i) {
                        return 10 * codeOf(one) + codeOf(other);
                    }
                    rests += isRest ? 1 : 0;
                }
            }
            return i == NONE ? rests : NONE;
        }

        int bestBait() {
            int bait = 0;
            for (int one = 1; one <= oaths.size(); one++) {
                if (shareOf(one, answerTo(one)) > shareOf(bait, answerTo(bait))) {
                    bait = one;
                }
            }
            return 10 * codeOf(bait) + codeOf(answerTo(bait));
        }

        private int codeOf(int choice) {
            return choice == oaths.size() ? NO_OATH : choice;
        }

        /** What a choice brings to the one who makes it. */
        private int shareOf(int own, int other) {
            if (own < 0 || own >= oaths.size() || own >= together.length) {
                return 0;
            }
            return (together[own] >> other & 1) != 0 ? oaths.gain(own) : -price;
        }

        private boolean isBest(int own, int other) {
            for (int choice = 0; choice <= oaths.size(); choice++) {
                if (shareOf(choice, other) > shareOf(own, other)) {
                    return false;
                }
            }
            return true;
        }

        private int answerTo(int one) {
            int answer = 0;
            for (int choice = 1; choice <= oaths.size(); choice++) {
                if (shareOf(choice, one) > shareOf(answer, one)) {
                    answer = choice;
                }
            }
            return answer;
        }
    }
}
