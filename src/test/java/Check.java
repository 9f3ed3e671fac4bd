/** Counts what was answered as due and what was not, and feeds texts. */
final class Check {
    static int passed = 0;
    static int failed = 0;
    private static final int SHOWN = 60;

    private Check() {
    }

    static void due(String call, long got, long want) {
        if (got == want) {
            passed++;
            return;
        }
        fail(call + " answered " + got + ", due is " + want);
    }

    static void due(String call, boolean got, boolean want) {
        due(call, got ? 1L : 0L, want ? 1L : 0L);
    }

    static void fail(String what) {
        failed++;
        if (failed <= SHOWN) {
            System.out.println("FAILED " + what);
        }
    }

    /** The text's bytes, four in a number, the highest first. */
    static int[] packed(String text) {
        int[] numbers = new int[(text.length() + 3) / 4];
        for (int i = 0; i < text.length(); i++) {
            numbers[i / 4] |= text.charAt(i) << 24 - i % 4 * 8;
        }
        return numbers;
    }

    /** Puts a text alone on the tape. */
    static int tape(OathYesterday x, String text) {
        x.end(0);
        int[] numbers = packed(text);
        int length = x.count(3);
        for (int at = 0; at < numbers.length; at += 5) {
            int[] five = new int[5];
            System.arraycopy(numbers, at, five, 0, Math.min(5, numbers.length - at));
            length = x.feed(five[0], five[1], five[2], five[3], five[4]);
        }
        return length;
    }

    static int land(OathYesterday x, String text) {
        tape(x, text);
        return x.text(0);
    }

    static int oath(OathYesterday x, String text) {
        tape(x, text);
        return x.text(1);
    }

    /** A new object with a land and oaths. */
    static OathYesterday made(String land, String... oaths) {
        OathYesterday x = new OathYesterday();
        due("text(0) of " + land, land(x, land) > 0, true);
        for (int i = 0; i < oaths.length; i++) {
            due("text(1) of " + oaths[i], oath(x, oaths[i]), i);
        }
        return x;
    }

    /** -9 stands for a NoSuchElementException. */
    static int deed(OathYesterday x, int deed, int what) {
        try {
            return x.deed(deed, what);
        } catch (java.util.NoSuchElementException e) {
            return -9;
        }
    }
}
