import java.util.NoSuchElementException;

/** What the tests share: answers are held against those that are due, and the wrong ones printed. */
final class Due {
    /** With these MULTs (by P) the PRINT of a KEY is the KEY itself, its lowest P bits. */
    static final int PLAIN_6 = (1 << 26) + 1;
    static final int PLAIN_8 = (1 << 24) + 1;
    static final int PLAIN_10 = (1 << 22) + 1;
    static final int PLAIN_14 = (1 << 18) + 1;

    private static int wrong = 0;
    private static int asked = 0;

    private Due() {
    }

    static void is(String call, long got, long want) {
        asked++;
        if (got != want) {
            wrong++;
            System.out.println(call + " answered " + got + ", due is " + want);
        }
    }

    static void is(String call, boolean got, boolean want) {
        is(call, got ? 1 : 0, want ? 1 : 0);
    }

    /** The ROW is just these numbers. */
    static void row(String call, QuotientFile x, long... want) {
        is(call + ": numbers of the row", x.count(0, 9), want.length);
        for (int i = 0; i < want.length; i++) {
            is(call + ": row(" + i + ")", number(x, i), want[i]);
        }
        noNumber(call, x, want.length);
    }

    private static long number(QuotientFile x, int i) {
        try {
            return x.row(i);
        } catch (NoSuchElementException e) {
            return -987654321L;
        }
    }

    static void noNumber(String call, QuotientFile x, int i) {
        boolean thrown = false;
        try {
            x.row(i);
        } catch (NoSuchElementException e) {
            thrown = true;
        }
        is(call + ": row(" + i + ") throws", thrown, true);
    }

    static void noWord(QuotientFile x, int file, int k) {
        boolean thrown = false;
        try {
            x.word(file, k);
        } catch (NoSuchElementException e) {
            thrown = true;
        }
        is("word(" + file + ", " + k + ") throws", thrown, true);
    }

    /** THE TEXT becomes this one. */
    static void text(QuotientFile x, String signs) {
        x.end(0);
        for (int i = 0; i < signs.length(); i += 4) {
            int v = 0;
            for (int j = i; j < i + 4; j++) {
                v = v << 8 | (j < signs.length() ? signs.charAt(j) : 0);
            }
            x.sign(v);
        }
        is("end(" + signs.length() + ")", x.end(signs.length()), true);
    }

    /** A new object whose PRINTS are plain, of P 6 (KEYS 0 .. 63 are their own PRINTS). */
    static QuotientFile plain6() {
        QuotientFile x = new QuotientFile();
        x.shape(6, PLAIN_6);
        return x;
    }

    static void putAll(QuotientFile x, int file, int... keys) {
        for (int key : keys) {
            x.puts(file, key);
        }
    }

    /** The PRINTS of a FILE are just these, rising. */
    static void prints(String call, QuotientFile x, int file, int... want) {
        is(call + ": prints of file " + file, x.count(file, 0), want.length);
        for (int i = 0; i < want.length; i++) {
            is(call + ": nth(" + file + ", " + i + ")", x.nth(file, i), want[i]);
        }
    }

    static void finish() {
        System.out.println(asked + " answers, " + wrong + " wrong");
        if (wrong != 0) {
            System.exit(1);
        }
    }
}
