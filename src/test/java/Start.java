import java.util.Arrays;
import java.util.function.ToLongFunction;

/** A state that is told by itself, not by the program, and the objects that are brought to it. */
final class Start {
    final int p;
    final int mult;
    int load = 75;
    final int[] q = {3, 3};
    final int[][] prints = {{}, {}};
    String text = "7,~";

    private Start(int p) {
        this.p = p;
        this.mult = (1 << (32 - p)) + 1;
    }

    /** With this MULT the PRINT of a KEY is the KEY itself, its lowest P bits. */
    static Start of(int p) {
        return new Start(p);
    }

    /** Slots 7, 0, 1 of FILE 0: 56, 62, 63; 2: 1; 3, 4: 24, 25; 5: 33; 6 is empty. FILE 1: 5, 5 in 1, 2; 40 in 10. */
    static Start sample() {
        return of(6).load(95).file(0, 3, 1, 24, 25, 33, 56, 62, 63).file(1, 4, 5, 5, 40);
    }

    Start load(int v) {
        load = v;
        return this;
    }

    Start file(int file, int newQ, int... all) {
        q[file] = newQ;
        prints[file] = all.clone();
        Arrays.sort(prints[file]);
        return this;
    }

    Start text(String signs) {
        text = signs;
        return this;
    }

    /** The ROW that each object made here has: QUOTIENT and REMAINDER of the greatest PRINT but one in FILE 0. */
    long[] row() {
        return new long[] {(1 << q[0]) - 1, (1 << (p - q[0])) - 2};
    }

    /** By the greatest Q nothing is DOUBLED, so that the PRINTS can come ahead of Q. */
    QuotientFile make() {
        QuotientFile x = new QuotientFile();
        x.shape(p, mult);
        for (int file = 0; file < 2; file++) {
            int greatest = Math.min(6, p - 1);
            for (int i = 3; i < greatest; i++) {
                x.doubles(file);
            }
            // The last ones first, so that nothing rests on the order in which they come.
            for (int i = prints[file].length - 1; i >= 0; i--) {
                x.puts(file, prints[file][i]);
            }
            for (int i = greatest; i > q[file]; i--) {
                x.halves(file);
            }
        }
        if (load != 75) {
            x.load(load);
        }
        x.print(0, (1 << p) - 2);
        Due.text(x, text);
        return x;
    }

    Bound when(String name, ToLongFunction<QuotientFile> call) {
        return new Bound(this, name, call);
    }

    /** As it lies in its slots, each told by four signs as lays() has them. */
    void lies(int file, String slots) {
        QuotientFile x = make();
        String[] cells = slots.split(" ");
        Due.is(Bound.sentence() + " slots", x.count(file, 1), cells.length);
        for (int i = 0; i < cells.length; i++) {
            int marks = cells[i].charAt(0) - '0';
            String call = Bound.sentence() + Arrays.toString(prints[file]) + " slot(" + file + ", " + i + ")";
            Due.is(call, x.slot(file, i), marks == 0 ? -2 : Integer.parseInt(cells[i].substring(1), 16));
            for (int bit = 0; bit < 3 && marks != 0; bit++) {
                Due.is(call + " mark " + bit, x.row(bit), marks >> bit & 1);
            }
        }
    }

    static int[] upTo(int n) {
        int[] all = new int[n];
        for (int i = 0; i < n; i++) {
            all[i] = i;
        }
        return all;
    }

    static int[] times(int n, int print) {
        int[] all = new int[n];
        Arrays.fill(all, print);
        return all;
    }

    static int[] with(int[] some, int... more) {
        int[] all = Arrays.copyOf(some, some.length + more.length);
        System.arraycopy(more, 0, all, some.length, more.length);
        return all;
    }
}
