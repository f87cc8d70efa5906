import java.util.Arrays;
import java.util.NoSuchElementException;
import java.util.function.ToLongFunction;

/** One call on an object in a told state: its answer, its ROW and all of the state behind it are held to what is due. */
final class Bound {
    private static final long THROWN = Long.MIN_VALUE + 7;
    private static String sentence = "";
    private static int begun = 0;
    private static int held = 0;

    private final String name;
    private final Start start;
    private final ToLongFunction<QuotientFile> call;
    private long answer = 0;
    private int p;
    private int mult;
    private int load;
    private int signs;
    private long[] row;
    private final int[] q = new int[2];
    private final int[][] prints = new int[2][];

    Bound(Start start, String name, ToLongFunction<QuotientFile> call) {
        begun++;
        this.start = start;
        this.name = name;
        this.call = call;
        p = start.p;
        mult = start.mult;
        load = start.load;
        signs = start.text.length();
        row = start.row();
        for (int file = 0; file < 2; file++) {
            q[file] = start.q[file];
            prints[file] = start.prints[file];
        }
    }

    /** What is tried from here on: a sentence of a promise (0: of the terms), word for word. */
    static void says(int promise, String words) {
        sentence = "[" + promise + ": " + words + "] ";
    }

    static String sentence() {
        return sentence;
    }

    // ---- what is due: all that is not told here stays as it was

    Bound answers(long due) {
        answer = due;
        return this;
    }

    Bound row(long... due) {
        row = due;
        return this;
    }

    Bound file(int file, int dueQ, int... due) {
        q[file] = dueQ;
        prints[file] = due.clone();
        Arrays.sort(prints[file]);
        return this;
    }

    Bound shape(int dueP, int dueMult) {
        p = dueP;
        mult = dueMult;
        return file(0, 3).file(1, 3);
    }

    Bound load(int due) {
        load = due;
        return this;
    }

    Bound signs(int due) {
        signs = due;
        return this;
    }

    /** This answer, and nothing is another than before. */
    void stays(long due) {
        answers(due).holds();
    }

    /** This answer, and THE TEXT alone is empty. */
    void empties(long due) {
        answers(due).signs(0).holds();
    }

    void fails() {
        stays(THROWN);
    }

    void holds() {
        held++;
        QuotientFile x = start.make();
        long got = tried(x);
        String told = sentence + name;
        if (got == THROWN || answer == THROWN) {
            Due.is(told + " throws", got == THROWN, answer == THROWN);
        } else {
            Due.is(told, got, answer);
        }
        Due.row(told, x, row);
        Due.is(told + ": signs", x.count(0, 10), signs);
        Due.is(told + ": P", x.count(0, 6), p);
        Due.is(told + ": MULT", x.count(0, 7), mult);
        Due.is(told + ": LOAD", x.count(0, 8), load);
        for (int file = 0; file < 2; file++) {
            Due.is(told + ": Q of file " + file, x.count(file, 2), q[file]);
            Due.is(told + ": slots of file " + file, x.count(file, 1), 1 << q[file]);
            words(told, x, file);
            Due.prints(told, x, file, prints[file]);
        }
    }

    private long tried(QuotientFile x) {
        try {
            return call.applyAsLong(x);
        } catch (NoSuchElementException e) {
            return THROWN;
        }
    }

    private void words(String told, QuotientFile x, int file) {
        long[] due = Model.words(prints[file], p, q[file]);
        for (int k = 0; k < due.length; k++) {
            Due.is(told + ": word(" + file + ", " + k + ")", wordOf(x, file, k), due[k]);
        }
    }

    private static long wordOf(QuotientFile x, int file, int k) {
        try {
            return x.word(file, k);
        } catch (NoSuchElementException e) {
            return THROWN;
        }
    }

    static void finish() {
        Due.is("calls that were tried", held, begun);
        Due.finish();
    }
}
