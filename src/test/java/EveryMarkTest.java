import java.util.HashSet;
import java.util.Set;

/**
 * All slots that can be told at all, of P 6 and Q 3 with remainders 0: of the 8 to the power of 8 ways to set the
 * marks just those can be read in which a bag lies that was put in key by key.
 */
public final class EveryMarkTest {
    private static final int SLOTS = 8;
    private static final int SLOT_BITS = 6;
    private static final int MOST_PRINTS = SLOTS - 1;
    private static final int MARK_WAYS = 1 << (3 * SLOTS);
    /** Ways to share at most 7 like prints among 8 quotients: 15 over 8. */
    private static final int BAGS = 6435;
    /** Behind 512 calls an object may answer what it likes. */
    private static final int CALLS = 500;

    private final Set<Long> laid = new HashSet<>();
    private final int[] lengths = new int[SLOTS];

    public static void main(String[] args) {
        EveryMarkTest test = new EveryMarkTest();
        test.layAll(0, MOST_PRINTS);
        Due.is("ways in which bags lie", test.laid.size(), BAGS);
        test.readAll();
        Due.finish();
    }

    private static QuotientFile ready() {
        QuotientFile x = Due.plain6();
        x.load(95);
        return x;
    }

    /** Each bag with runs as long as can be from this quotient on, if so many prints are left. */
    private void layAll(int quotient, int left) {
        if (quotient == SLOTS) {
            laid.add(putAndAsked());
            return;
        }
        for (int length = 0; length <= left; length++) {
            lengths[quotient] = length;
            layAll(quotient + 1, left - length);
        }
    }

    private long putAndAsked() {
        QuotientFile x = ready();
        for (int quotient = 0; quotient < SLOTS; quotient++) {
            for (int i = 0; i < lengths[quotient]; i++) {
                Due.is("puts of quotient " + quotient, x.puts(0, quotient * SLOTS), SLOTS);
            }
        }
        return x.word(0, 0);
    }

    private void readAll() {
        QuotientFile x = ready();
        int used = 0;
        long now = 0;
        for (int marks = 0; marks < MARK_WAYS; marks++) {
            if (used++ == CALLS) {
                x = ready();
                used = 1;
                now = 0;
            }
            long word = spread(marks);
            boolean readable = laid.contains(word);
            int due = word == now ? -2 : readable ? prints(word) : -300;
            int got = x.sets(0, 0, (int) (word >>> 32), (int) word);
            if (got != due || readable) {
                Due.is("sets of word " + word, got, due);
            }
            now = readable ? word : now;
        }
    }

    /** Three marks a slot, with a remainder 0 behind each. */
    private static long spread(int marks) {
        long word = 0;
        for (int slot = 0; slot < SLOTS; slot++) {
            word |= (long) (marks >> (3 * slot) & 7) << (SLOT_BITS * slot);
        }
        return word;
    }

    private static int prints(long word) {
        int found = 0;
        for (int slot = 0; slot < SLOTS; slot++) {
            found += (word >>> (SLOT_BITS * slot) & 7) != 0 ? 1 : 0;
        }
        return found;
    }
}
