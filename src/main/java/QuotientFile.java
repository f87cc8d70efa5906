import java.util.NoSuchElementException;

/** Two files of fingerprints that tell what may be in a set, each laid in slots by quotient and remainder. */
public final class QuotientFile {
    public static final int NONE = -1;

    private static final int NOTHING = -2;
    private static final int NOT_SO = -3;
    private static final int NO_ROOM = -5;
    private static final int NO_BAG = -300;

    private static final int LEAST_Q = 3;
    private static final int MOST_Q = 6;
    private static final int MOST_SLOTS = 64;
    private static final int LEAST_P = 6;
    private static final int MOST_P = 14;
    private static final int LEAST_LOAD = 50;
    private static final int MOST_LOAD = 95;
    private static final int MOST_KEY = 99999;
    private static final int TWIN_KEYS = 10000;
    private static final int ASKED_KEYS = 1000;
    private static final int MOST_SIGNS = 80;
    private static final int MOST_DIGITS = 5;
    private static final int WORD_BITS = 64;

    private static final int OCCUPIED = 1;
    private static final int CONTINUED = 2;
    private static final int SHIFTED = 4;
    private static final int MARK_BITS = 3;

    private int printBits;
    private int multiplier;
    private int loadLimit;
    private final Bag first;
    private final Bag second;
    private final Bag draft;
    private final Layout lying;
    private final Layout later;
    private final RawSlots raw;
    private final Numbers numbers;
    private final Text text;
    private final KeyList told;

    public QuotientFile() {
        printBits = 10;
        multiplier = -1640531527;
        loadLimit = 75;
        first = new Bag();
        second = new Bag();
        draft = new Bag();
        lying = new Layout();
        later = new Layout();
        raw = new RawSlots();
        numbers = new Numbers();
        text = new Text();
        told = new KeyList();
    }

    public int shape(int p, int mult) {
        if (p < LEAST_P || p > MOST_P || (mult & 1) == 0) {
            return NONE;
        }
        int before = printBits;
        printBits = p;
        multiplier = mult;
        first.emptyTo(LEAST_Q);
        second.emptyTo(LEAST_Q);
        return before;
    }

    public int load(int v) {
        if (v < LEAST_LOAD || v > MOST_LOAD) {
            return NONE;
        }
        if (v == loadLimit) {
            return NOTHING;
        }
        int before = loadLimit;
        loadLimit = v;
        return before;
    }

    // ---- keys

    public int print(int file, int key) {
        Bag bag = bagOf(file);
        if (bag == null || !isKey(key)) {
            return NONE;
        }
        int print = printOf(key);
        int shift = printBits - bag.q;
        numbers.tell(print >> shift, print & ((1 << shift) - 1));
        return print;
    }

    public int puts(int file, int key) {
        Bag bag = bagOf(file);
        if (bag == null || !isKey(key)) {
            return NONE;
        }
        int index = putIn(bag, printOf(key));
        if (index < 0) {
            return NO_ROOM;
        }
        lying.lay(bag, printBits);
        numbers.tell(lying.slotOf(index), bag.size);
        return bag.slotCount();
    }

    public int takes(int file, int key) {
        Bag bag = bagOf(file);
        if (bag == null || !isKey(key)) {
            return NONE;
        }
        int print = printOf(key);
        if (!bag.dropOne(print)) {
            return NOTHING;
        }
        numbers.tell(bag.size);
        return bag.timesOf(print);
    }

    public int has(int file, int key) {
        Bag bag = bagOf(file);
        if (bag == null || !isKey(key)) {
            return NONE;
        }
        int print = printOf(key);
        numbers.tell(lookedAt(bag, bag.q, print));
        return bag.timesOf(print);
    }

    public int twin(int key) {
        if (!isKey(key)) {
            return NONE;
        }
        int print = printOf(key);
        for (int other = 0; other < TWIN_KEYS; other++) {
            if (other != key && printOf(other) == print) {
                return other;
            }
        }
        return NOTHING;
    }

    public int keys(int file) {
        Bag bag = bagOf(file);
        int fault = bag == null ? NONE : told.read(text, true);
        text.cutTo(0);
        if (bag == null || fault < 0) {
            return fault;
        }
        int done = 0;
        while (done < told.size && doKey(bag, told.keyAt(done), told.goesOut(done))) {
            done++;
        }
        numbers.tell(done < told.size ? 1 : 0, bag.size);
        return done;
    }

    public int wrongs(int file) {
        Bag bag = bagOf(file);
        int fault = bag == null ? NONE : told.read(text, false);
        text.cutTo(0);
        if (bag == null || fault < 0) {
            return fault;
        }
        int wrong = 0;
        int least = NONE;
        for (int key = 0; key < ASKED_KEYS; key++) {
            if (bag.holds(printOf(key)) && !told.holds(key)) {
                wrong++;
                least = least < 0 ? key : least;
            }
        }
        numbers.tell(least, missingOfTold(bag));
        return wrong;
    }

    // ---- slots

    public int slot(int file, int i) {
        Bag bag = bagOf(file);
        if (bag == null || i < 0 || i >= bag.slotCount()) {
            return NONE;
        }
        lying.lay(bag, printBits);
        int index = lying.indexAt(i);
        if (index < 0) {
            return NOTHING;
        }
        numbers.restart();
        numbers.add(lying.isMarked(i, OCCUPIED) ? 1 : 0);
        numbers.add(lying.isMarked(i, CONTINUED) ? 1 : 0);
        numbers.add(lying.isMarked(i, SHIFTED) ? 1 : 0);
        numbers.add(bag.at(index));
        return lying.cellAt(i) >> MARK_BITS;
    }

    public long word(int file, int k) throws NoSuchElementException {
        Bag bag = bagOf(file);
        if (bag == null || !isWord(bag, k)) {
            throw new NoSuchElementException("no such word");
        }
        lying.lay(bag, printBits);
        return lying.wordAt(k);
    }

    public int lays(int file) {
        Bag bag = bagOf(file);
        int fault = bag == null ? NONE : raw.readText(text, printBits);
        text.cutTo(0);
        if (bag == null || fault < 0) {
            return fault;
        }
        return becomeRaw(bag);
    }

    public int sets(int file, int k, int high, int low) {
        Bag bag = bagOf(file);
        if (bag == null || !isWord(bag, k)) {
            return NONE;
        }
        long word = ((long) high << 32) | (low & 0xffffffffL);
        lying.lay(bag, printBits);
        if (word == lying.wordAt(k)) {
            return NOTHING;
        }
        if (!raw.readWord(lying, k, word)) {
            return NO_BAG;
        }
        return becomeRaw(bag);
    }

    // ---- runs, clusters

    public int run(int file, int quotient) {
        Bag bag = bagOf(file);
        if (bag == null || quotient < 0 || quotient >= bag.slotCount()) {
            return NONE;
        }
        int shift = printBits - bag.q;
        int from = bag.below(quotient << shift);
        int to = bag.below((quotient + 1) << shift);
        if (from == to) {
            return NOTHING;
        }
        lying.lay(bag, printBits);
        numbers.tell(lying.slotOf(from));
        for (int i = from; i < to; i++) {
            numbers.add(bag.at(i) & ((1 << shift) - 1));
        }
        return to - from;
    }

    public int cluster(int file, int i) {
        Bag bag = bagOf(file);
        if (bag == null || i < 0 || i >= bag.slotCount()) {
            return NONE;
        }
        lying.lay(bag, printBits);
        if (lying.indexAt(i) < 0) {
            return NOTHING;
        }
        int start = lying.clusterStart(i);
        int length = lying.clusterLength(start);
        numbers.tell(start, lying.runsIn(start, length));
        return length;
    }

    public int clusters(int file) {
        Bag bag = bagOf(file);
        if (bag == null) {
            return NONE;
        }
        lying.lay(bag, printBits);
        int found = 0;
        int most = 0;
        int where = NONE;
        for (int s = 0; s < lying.slots; s++) {
            if (lying.startsCluster(s)) {
                found++;
                int length = lying.clusterLength(s);
                where = length > most ? s : where;
                most = Math.max(most, length);
            }
        }
        numbers.tell(most, where);
        return found;
    }

    public int would(int file, int key) {
        Bag bag = bagOf(file);
        if (bag == null || !isKey(key)) {
            return NONE;
        }
        if (mustDouble(bag)) {
            return NOT_SO;
        }
        if (bag.isFull()) {
            return NO_ROOM;
        }
        draft.becomeLike(bag);
        int index = draft.insert(printOf(key));
        lying.lay(bag, printBits);
        later.lay(draft, printBits);
        int moved = 0;
        for (int i = 0; i < bag.size; i++) {
            int then = i < index ? i : i + 1;
            if (lying.slotOf(i) != later.slotOf(then)) {
                moved++;
            }
        }
        numbers.tell(later.slotOf(index));
        return moved;
    }

    public int looks(int file) {
        Bag bag = bagOf(file);
        if (bag == null) {
            return NONE;
        }
        int most = 0;
        int which = NONE;
        for (int i = 0; i < bag.size; i++) {
            int looked = lookedAt(bag, bag.q, bag.at(i));
            which = looked > most ? bag.at(i) : which;
            most = Math.max(most, looked);
        }
        numbers.tell(most, which, bag.unlike());
        return allLookedAt(bag, bag.q);
    }

    public int nth(int file, int i) {
        Bag bag = bagOf(file);
        if (bag == null || i < 0 || i >= bag.size) {
            return NONE;
        }
        lying.lay(bag, printBits);
        numbers.tell(lying.slotOf(i));
        return bag.at(i);
    }

    public int best(int file) {
        Bag bag = bagOf(file);
        if (bag == null) {
            return NONE;
        }
        int bestQ = NONE;
        int fewest = NONE;
        numbers.restart();
        for (int q = LEAST_Q; q <= MOST_Q; q++) {
            boolean fits = q <= greatestQ() && bag.size < 1 << q;
            int looked = fits ? allLookedAt(bag, q) : NONE;
            if (fits && (bestQ < 0 || looked < fewest)) {
                bestQ = q;
                fewest = looked;
            }
            numbers.add(looked);
        }
        return bestQ;
    }

    public int span(int file, int v, int w) {
        Bag bag = bagOf(file);
        if (bag == null || v < 0 || w < v || w >= 1 << printBits) {
            return NONE;
        }
        int from = bag.below(v);
        int to = bag.below(w + 1);
        lying.lay(bag, printBits);
        int found = 0;
        int together = 0;
        for (int s = 0; s < lying.slots; s++) {
            if (lying.startsCluster(s)) {
                int length = lying.clusterLength(s);
                boolean touched = lying.hasIndexOf(s, length, from, to);
                found += touched ? 1 : 0;
                together += touched ? length : 0;
            }
        }
        numbers.tell(found, together);
        return to - from;
    }

    public int after(int file, int v) {
        Bag bag = bagOf(file);
        if (bag == null || v < 0) {
            return NONE;
        }
        int index = bag.below(v);
        if (index >= bag.size) {
            return NOTHING;
        }
        int print = bag.at(index);
        lying.lay(bag, printBits);
        numbers.tell(bag.timesOf(print), lying.slotOf(index));
        return print;
    }

    public int gaps(int file) {
        Bag bag = bagOf(file);
        if (bag == null) {
            return NONE;
        }
        lying.lay(bag, printBits);
        int most = 0;
        int where = NONE;
        for (int s = 0; s < lying.slots; s++) {
            int length = lying.gapLength(s);
            where = length > most ? s : where;
            most = Math.max(most, length);
        }
        numbers.tell(most, where);
        return bag.slotCount() - bag.size;
    }

    // ---- files

    public int doubles(int file) {
        Bag bag = bagOf(file);
        if (bag == null) {
            return NONE;
        }
        if (bag.q >= greatestQ()) {
            return NOTHING;
        }
        bag.q++;
        return bag.slotCount();
    }

    public int halves(int file) {
        Bag bag = bagOf(file);
        if (bag == null) {
            return NONE;
        }
        if (bag.q <= LEAST_Q) {
            return NOTHING;
        }
        if (bag.size > bag.slotCount() / 2 - 1) {
            return NO_ROOM;
        }
        bag.q--;
        return bag.slotCount();
    }

    public int merges() {
        int came = second.size;
        if (came == 0) {
            return NOTHING;
        }
        if (!fitTogether()) {
            return NO_ROOM;
        }
        pour(second, first);
        numbers.tell(first.slotCount(), first.size);
        return came;
    }

    public int spills(int key) {
        if (!isKey(key)) {
            return NONE;
        }
        boolean over = mustDouble(first) || first.isFull();
        if (over && !fitTogether()) {
            return NO_ROOM;
        }
        if (over) {
            pour(first, second);
        }
        first.insert(printOf(key));
        numbers.tell(first.size, second.size);
        return over ? 1 : 0;
    }

    public int both(int key) {
        if (!isKey(key)) {
            return NONE;
        }
        int print = printOf(key);
        int inFirst = first.timesOf(print);
        int looked = inFirst > 0 ? 0 : lookedAt(second, second.q, print);
        numbers.tell(lookedAt(first, first.q, print), looked);
        return inFirst + second.timesOf(print);
    }

    public int parts(int v) {
        if (v < 0 || v >= 1 << printBits) {
            return NONE;
        }
        int from = first.below(v);
        int going = first.size - from;
        if (going == 0) {
            return NOTHING;
        }
        if (second.size > 0) {
            return NOT_SO;
        }
        second.emptyTo(first.q);
        for (int i = from; i < first.size; i++) {
            second.insert(first.at(i));
        }
        first.cutTo(from);
        return going;
    }

    public int keeps(boolean both) {
        draft.emptyTo(first.q);
        for (int i = 0; i < first.size; i++) {
            if (isShared(i) == both) {
                draft.insert(first.at(i));
            }
        }
        int going = first.size - draft.size;
        if (going == 0) {
            return NOTHING;
        }
        first.becomeLike(draft);
        return going;
    }

    public int clears(int file) {
        Bag bag = bagOf(file);
        if (bag == null) {
            return NONE;
        }
        int before = bag.size;
        bag.emptyTo(LEAST_Q);
        return before;
    }

    public int common() {
        int shared = 0;
        int unlike = 0;
        for (int i = 0; i < first.size; i++) {
            if (isShared(i)) {
                shared++;
                unlike += first.rankOf(i) == 0 ? 1 : 0;
            }
        }
        numbers.tell(unlike, shared == first.size ? 1 : 0, shared == second.size ? 1 : 0);
        return shared;
    }

    public int full(int file) {
        Bag bag = bagOf(file);
        if (bag == null) {
            return NONE;
        }
        int found = 0;
        for (int key = 0; key < ASKED_KEYS; key++) {
            if (bag.holds(printOf(key))) {
                found++;
            }
        }
        numbers.tell(doubleBits(bag.unlike(), printBits), found);
        return floatBits(bag.size, bag.q);
    }

    public int count(int file, int what) {
        switch (what) {
            case 6:
                return printBits;
            case 7:
                return multiplier;
            case 8:
                return loadLimit;
            case 9:
                return numbers.size;
            case 10:
                return text.size;
            default:
                Bag bag = bagOf(file);
                return bag == null ? NONE : countOf(bag, what);
        }
    }

    public int sign(int v) {
        return text.addFour(v) ? text.size : NONE;
    }

    public boolean end(int n) {
        return text.cutTo(n);
    }

    public long row(int i) throws NoSuchElementException {
        if (i < 0 || i >= numbers.size) {
            throw new NoSuchElementException("no such number");
        }
        return numbers.at(i);
    }

    // ---- what several calls share

    private Bag bagOf(int file) {
        if (file == 0) {
            return first;
        }
        return file == 1 ? second : null;
    }

    private static boolean isKey(int key) {
        return key >= 0 && key <= MOST_KEY;
    }

    private int printOf(int key) {
        return (key * multiplier) >>> (32 - printBits);
    }

    private int greatestQ() {
        return Math.min(MOST_Q, printBits - 1);
    }

    private boolean isWord(Bag bag, int k) {
        int bits = bag.slotCount() * (printBits - bag.q + MARK_BITS);
        return k >= 0 && k <= (bits - 1) / WORD_BITS;
    }

    private boolean mustDouble(Bag bag) {
        return 100 * (bag.size + 1) > loadLimit * bag.slotCount() && bag.q < greatestQ();
    }

    /** The index of the print as it is put in, or NONE if there is no room. */
    private int putIn(Bag bag, int print) {
        if (mustDouble(bag)) {
            bag.q++;
        }
        return bag.isFull() ? NONE : bag.insert(print);
    }

    private boolean doKey(Bag bag, int key, boolean goesOut) {
        int print = printOf(key);
        return goesOut ? bag.dropOne(print) : putIn(bag, print) >= 0;
    }

    private int missingOfTold(Bag bag) {
        int missing = 0;
        for (int i = 0; i < told.size; i++) {
            if (!bag.holds(printOf(told.keyAt(i)))) {
                missing++;
            }
        }
        return missing;
    }

    /** The bag becomes the one that lies as the raw slots say, if there is such a one. */
    private int becomeRaw(Bag bag) {
        if (!raw.decode(draft, printBits)) {
            return NO_BAG;
        }
        later.lay(draft, printBits);
        if (!raw.liesAs(later)) {
            return NO_BAG;
        }
        bag.becomeLike(draft);
        return bag.size;
    }

    /** Slots that are looked at for a print: it does not matter where they lie, but which prints are in its run. */
    private int lookedAt(Bag bag, int q, int print) {
        int shift = printBits - q;
        int quotient = print >> shift;
        int from = bag.below(quotient << shift);
        int to = bag.below((quotient + 1) << shift);
        int notGreater = bag.below(print + 1);
        return notGreater < to ? notGreater - from + 1 : notGreater - from;
    }

    private int allLookedAt(Bag bag, int q) {
        int all = 0;
        for (int i = 0; i < bag.size; i++) {
            all += lookedAt(bag, q, bag.at(i));
        }
        return all;
    }

    private boolean fitTogether() {
        return first.size + second.size < 1 << greatestQ();
    }

    private void pour(Bag from, Bag to) {
        for (int i = 0; i < from.size; i++) {
            to.insert(from.at(i));
        }
        from.cutTo(0);
        to.q = fittingQ(to.q, to.size);
    }

    private int fittingQ(int leastQ, int prints) {
        int most = greatestQ();
        for (int q = leastQ; q < most; q++) {
            if (100 * prints <= loadLimit << q) {
                return q;
            }
        }
        return most;
    }

    /** Whether the print at an index of the first file has a like one of its own in the second. */
    private boolean isShared(int index) {
        return first.rankOf(index) < second.timesOf(first.at(index));
    }

    private int countOf(Bag bag, int what) {
        switch (what) {
            case 0:
                return bag.size;
            case 1:
                return bag.slotCount();
            case 2:
                return bag.q;
            case 3:
                return countMarked(bag, OCCUPIED);
            case 4:
                return countMarked(bag, CONTINUED);
            case 5:
                return countMarked(bag, SHIFTED);
            default:
                return NONE;
        }
    }

    private int countMarked(Bag bag, int mark) {
        lying.lay(bag, printBits);
        int marked = 0;
        for (int s = 0; s < lying.slots; s++) {
            if (lying.isMarked(s, mark)) {
                marked++;
            }
        }
        return marked;
    }

    /** The bits of n by 2 to a power, as a float; n is so small that it is exact. */
    private static int floatBits(int n, int power) {
        if (n <= 0) {
            return 0;
        }
        int highest = highestBit(n);
        int exponent = highest - power + 127;
        return (exponent << 23) | ((n - (1 << highest)) << (23 - highest));
    }

    /** As floatBits, of a double. */
    private static long doubleBits(int n, int power) {
        if (n <= 0) {
            return 0L;
        }
        int highest = highestBit(n);
        long exponent = highest - power + 1023;
        return (exponent << 52) | ((long) (n - (1 << highest)) << (52 - highest));
    }

    private static int highestBit(int n) {
        int highest = 0;
        while (highest < MOST_Q && n >> (highest + 1) > 0) {
            highest++;
        }
        return highest;
    }

    /** The prints of a file, rising, and its Q: all that a file is, for there is one way to lie. */
    private static final class Bag {
        private final int[] prints = new int[MOST_SLOTS];
        private int size = 0;
        private int q = LEAST_Q;

        int slotCount() {
            return 1 << q;
        }

        boolean isFull() {
            return size >= slotCount() - 1;
        }

        int at(int i) {
            return i >= 0 && i < size && i < prints.length ? prints[i] : 0;
        }

        /** How many prints are less than v; the steps together are 63, the most prints of a file. */
        int below(int v) {
            int low = 0;
            for (int step = MOST_SLOTS / 2; step > 0; step >>= 1) {
                if (low + step <= size && at(low + step - 1) < v) {
                    low += step;
                }
            }
            return low;
        }

        boolean holds(int print) {
            int place = below(print);
            return place < size && at(place) == print;
        }

        int timesOf(int print) {
            return below(print + 1) - below(print);
        }

        int rankOf(int i) {
            return i - below(at(i));
        }

        int unlike() {
            int found = 0;
            for (int i = 0; i < size; i++) {
                if (rankOf(i) == 0) {
                    found++;
                }
            }
            return found;
        }

        /** Where the print comes, behind all like ones; NONE if the row can't hold it. */
        int insert(int print) {
            int place = below(print + 1);
            if (place < 0 || place > size || size >= prints.length) {
                return NONE;
            }
            for (int i = size; i > place; i--) {
                prints[i] = prints[i - 1];
            }
            prints[place] = print;
            size++;
            return place;
        }

        boolean dropOne(int print) {
            if (!holds(print)) {
                return false;
            }
            for (int i = Math.max(0, below(print)); i + 1 < size && i + 1 < prints.length; i++) {
                prints[i] = prints[i + 1];
            }
            size--;
            return true;
        }

        void cutTo(int left) {
            if (left >= 0 && left < size) {
                size = left;
            }
        }

        void emptyTo(int newQ) {
            size = 0;
            q = newQ;
        }

        void becomeLike(Bag other) {
            for (int i = 0; i < other.size && i < prints.length; i++) {
                prints[i] = other.at(i);
            }
            size = other.size;
            q = other.q;
        }
    }

    /** Where the prints of a bag lie, and the marks of its slots. */
    private static final class Layout {
        private final int[] places = new int[MOST_SLOTS];
        private final int[] indexes = new int[MOST_SLOTS];
        private final int[] cells = new int[MOST_SLOTS];
        private int q = LEAST_Q;
        private int slots = 0;
        private int shift = 0;

        void lay(Bag bag, int printBits) {
            q = bag.q;
            slots = bag.slotCount();
            shift = printBits - bag.q;
            // What goes over the end is known after one round, so that the second one begins behind it.
            int over = placeAll(bag, 0);
            placeAll(bag, over);
            for (int s = 0; s < slots && s < cells.length; s++) {
                indexes[s] = NONE;
                cells[s] = 0;
            }
            for (int i = 0; i < bag.size; i++) {
                fillCell(bag, i);
            }
        }

        private int placeAll(Bag bag, int firstFree) {
            int free = firstFree;
            for (int i = 0; i < bag.size && i < places.length; i++) {
                int place = Math.max(bag.at(i) >> shift, free);
                places[i] = place & (slots - 1);
                free = place + 1;
            }
            return Math.max(0, free - slots);
        }

        private void fillCell(Bag bag, int i) {
            int print = bag.at(i);
            int home = print >> shift;
            int place = slotOf(i);
            if (place < 0 || place >= cells.length || home < 0 || home >= cells.length) {
                return;
            }
            boolean continued = i > 0 && bag.at(i - 1) >> shift == home;
            int remainder = print & ((1 << shift) - 1);
            indexes[place] = i;
            cells[home] |= OCCUPIED;
            cells[place] |= (continued ? CONTINUED : 0) | (place != home ? SHIFTED : 0) | remainder << MARK_BITS;
        }

        int slotOf(int i) {
            return i >= 0 && i < places.length ? places[i] : NONE;
        }

        /** The index of the print in a slot, NONE if it is empty. */
        int indexAt(int s) {
            return s >= 0 && s < slots && s < indexes.length ? indexes[s] : NONE;
        }

        int cellAt(int s) {
            return s >= 0 && s < slots && s < cells.length ? cells[s] : 0;
        }

        boolean isMarked(int s, int mark) {
            return (cellAt(s) & mark) != 0;
        }

        int cellBits() {
            return shift + MARK_BITS;
        }

        long wordAt(int k) {
            int bits = cellBits();
            long word = 0L;
            for (int s = 0; s < slots; s++) {
                int offset = s * bits - k * WORD_BITS;
                long cell = cellAt(s);
                if (offset >= 0 && offset < WORD_BITS) {
                    word |= cell << offset;
                } else if (offset < 0 && offset > -bits) {
                    word |= cell >>> -offset;
                }
            }
            return word;
        }

        private int around(int s) {
            return s & (slots - 1);
        }

        boolean startsCluster(int s) {
            return indexAt(s) >= 0 && !isMarked(s, SHIFTED);
        }

        int clusterStart(int s) {
            int back = 0;
            while (back < slots && isMarked(around(s - back), SHIFTED)) {
                back++;
            }
            return around(s - back);
        }

        int clusterLength(int start) {
            int length = 1;
            while (length < slots && isMarked(around(start + length), SHIFTED)) {
                length++;
            }
            return length;
        }

        int runsIn(int start, int length) {
            int runs = 0;
            for (int i = 0; i < length; i++) {
                if (!isMarked(around(start + i), CONTINUED)) {
                    runs++;
                }
            }
            return runs;
        }

        boolean hasIndexOf(int start, int length, int from, int to) {
            for (int i = 0; i < length; i++) {
                int index = indexAt(around(start + i));
                if (index >= from && index < to) {
                    return true;
                }
            }
            return false;
        }

        /** How many slots from this one on, going round, are empty. */
        int gapLength(int s) {
            int length = 0;
            while (length < slots && indexAt(around(s + length)) < 0) {
                length++;
            }
            return length;
        }
    }

    /** Slots as they are told, of which it is not known whether they can be read. */
    private static final class RawSlots {
        private final int[] cells = new int[MOST_SLOTS];
        private final int[] homes = new int[MOST_SLOTS];
        private int q = LEAST_Q;

        private int slotCount() {
            return 1 << q;
        }

        private int cellAt(int s) {
            return s >= 0 && s < cells.length ? cells[s] : 0;
        }

        private void setCell(int s, int cell) {
            if (s >= 0 && s < cells.length) {
                cells[s] = cell;
            }
        }

        /** 0, or -1 - p if the sign at p can't stand there. */
        int readText(Text text, int printBits) {
            int digit = text.at(0) - '0';
            if (digit != 3 && digit != 4) {
                return -1;
            }
            q = digit;
            for (int s = 0; s < slotCount(); s++) {
                int fault = readCell(text, s, printBits - q);
                if (fault < 0) {
                    return fault;
                }
            }
            int length = 1 + 4 * slotCount();
            return text.size > length ? -1 - length : 0;
        }

        private int readCell(Text text, int s, int remainderBits) {
            int from = 1 + 4 * s;
            int marks = hexOf(text.at(from));
            if (marks < 0 || marks > 7) {
                return -1 - from;
            }
            int remainder = 0;
            for (int p = from + 1; p < from + 4; p++) {
                int digit = hexOf(text.at(p));
                if (digit < 0) {
                    return -1 - p;
                }
                remainder = remainder * 16 + digit;
            }
            if (remainder >= 1 << remainderBits) {
                return -1 - (from + 3);
            }
            setCell(s, remainder << MARK_BITS | marks);
            return 0;
        }

        private static int hexOf(int sign) {
            if (sign >= '0' && sign <= '9') {
                return sign - '0';
            }
            return sign >= 'a' && sign <= 'f' ? sign - 'a' + 10 : NONE;
        }

        /** The slots of a layout with word k another one; false if that has bits behind the last slot. */
        boolean readWord(Layout lying, int k, long word) {
            q = lying.q;
            int bits = lying.cellBits();
            int behind = lying.slots * bits - k * WORD_BITS;
            if (behind < WORD_BITS && word >>> behind != 0L) {
                return false;
            }
            for (int s = 0; s < lying.slots; s++) {
                setCell(s, overlaid(lying.cellAt(s), s * bits - k * WORD_BITS, bits, word));
            }
            return true;
        }

        /** A cell whose lowest bit is bit number offset of a word takes the bits that lie in the word. */
        private static int overlaid(int cell, int offset, int bits, long word) {
            int result = cell;
            for (int j = 0; j < bits; j++) {
                int place = offset + j;
                if (place >= 0 && place < WORD_BITS) {
                    int bit = (int) (word >>> place) & 1;
                    result = (result & ~(1 << j)) | bit << j;
                }
            }
            return result;
        }

        /** The only bag that may lie so; false if it is plain that there is none. */
        boolean decode(Bag bag, int printBits) {
            bag.emptyTo(q);
            int empty = emptySlot();
            if (empty < 0) {
                return false;
            }
            int shift = printBits - q;
            int homesSeen = 0;
            int runsSeen = 0;
            for (int i = 1; i < slotCount(); i++) {
                int s = (empty + i) & (slotCount() - 1);
                int cell = cellAt(s);
                if ((cell & OCCUPIED) != 0 && homesSeen < homes.length) {
                    homes[homesSeen] = s;
                    homesSeen++;
                }
                if (marksOf(cell) != 0) {
                    runsSeen += (cell & CONTINUED) == 0 ? 1 : 0;
                    if (runsSeen < 1 || runsSeen > homesSeen) {
                        return false;
                    }
                    bag.insert(homes[runsSeen - 1] << shift | cell >> MARK_BITS);
                }
            }
            return true;
        }

        private int emptySlot() {
            for (int s = 0; s < slotCount(); s++) {
                if (marksOf(cellAt(s)) == 0) {
                    return s;
                }
            }
            return NONE;
        }

        private static int marksOf(int cell) {
            return cell & ((1 << MARK_BITS) - 1);
        }

        boolean liesAs(Layout layout) {
            for (int s = 0; s < slotCount(); s++) {
                if (cellAt(s) != layout.cellAt(s)) {
                    return false;
                }
            }
            return true;
        }
    }

    /** The numbers of the row. */
    private static final class Numbers {
        private final long[] cells = new long[MOST_SLOTS];
        private int size = 0;

        void restart() {
            size = 0;
        }

        void add(long number) {
            if (size >= 0 && size < cells.length) {
                cells[size] = number;
                size++;
            }
        }

        void tell(long a) {
            restart();
            add(a);
        }

        void tell(long a, long b) {
            tell(a);
            add(b);
        }

        void tell(long a, long b, long c) {
            tell(a, b);
            add(c);
        }

        long at(int i) {
            return i >= 0 && i < cells.length ? cells[i] : 0L;
        }
    }

    /** The signs of the text. */
    private static final class Text {
        private final char[] signs = new char[MOST_SIGNS];
        private int size = 0;

        boolean addFour(int v) {
            if (size < 0 || size + 4 > signs.length) {
                return false;
            }
            for (int shift = 24; shift >= 0; shift -= 8) {
                signs[size] = (char) ((v >>> shift) & 255);
                size++;
            }
            return true;
        }

        boolean cutTo(int n) {
            if (n < 0 || n > size) {
                return false;
            }
            size = n;
            return true;
        }

        /** The sign at p, NONE at the end. */
        int at(int p) {
            return p >= 0 && p < size && p < signs.length ? signs[p] : NONE;
        }
    }

    /** Keys that a text tells, each to be put in or taken out. */
    private static final class KeyList {
        private final int[] keys = new int[MOST_SIGNS];
        private final boolean[] outs = new boolean[MOST_SIGNS];
        private int size = 0;

        int keyAt(int i) {
            return i >= 0 && i < keys.length ? keys[i] : 0;
        }

        boolean goesOut(int i) {
            return i >= 0 && i < outs.length && outs[i];
        }

        boolean holds(int key) {
            for (int i = 0; i < size; i++) {
                if (keyAt(i) == key) {
                    return true;
                }
            }
            return false;
        }

        private void add(int key, boolean out) {
            if (size >= 0 && size < keys.length && size < outs.length) {
                keys[size] = key;
                outs[size] = out;
                size++;
            }
        }

        /** 0, or -1 - p if the sign at p can't stand there. */
        int read(Text text, boolean outsToo) {
            size = 0;
            int digits = 0;
            int key = 0;
            boolean out = false;
            for (int p = 0; p < text.size; p++) {
                int sign = text.at(p);
                if (sign >= '0' && sign <= '9' && digits < MOST_DIGITS) {
                    key = key * 10 + (sign - '0');
                    digits++;
                } else if (sign == '~' && outsToo && digits == 0 && !out) {
                    out = true;
                } else if (sign == ',' && digits > 0) {
                    add(key, out);
                    digits = 0;
                    key = 0;
                    out = false;
                } else {
                    return -1 - p;
                }
            }
            if (text.size > 0 && digits == 0) {
                return -1 - text.size;
            }
            if (text.size > 0) {
                add(key, out);
            }
            return 0;
        }
    }
}
