import java.util.ArrayList;
import java.util.Collections;
import java.util.List;
import java.util.NoSuchElementException;
import java.util.TreeMap;

/**
 * The document once more, by other ways than the program's and without care for speed: a file is a map from
 * prints to how many there are, runs are moved on until none stands in another's way, words are rows of bits.
 */
final class Model {
    private int p = 10;
    private int mult = -1640531527;
    private int load = 75;
    private final List<TreeMap<Integer, Integer>> bags = new ArrayList<>();
    private final int[] q = {3, 3};
    private List<Long> row = new ArrayList<>();
    private String text = "";

    Model() {
        bags.add(new TreeMap<>());
        bags.add(new TreeMap<>());
    }

    // ---- what the calls share

    private static boolean noFile(int file) {
        return file != 0 && file != 1;
    }

    private static boolean noKey(int key) {
        return key < 0 || key > 99999;
    }

    private int printOf(int key) {
        String bits = String.format("%32s", Integer.toBinaryString(key * mult)).replace(' ', '0');
        return Integer.parseInt(bits.substring(0, p), 2);
    }

    private int size(int file) {
        int n = 0;
        for (int times : bags.get(file).values()) {
            n += times;
        }
        return n;
    }

    private int slots(int file) {
        return (int) Math.pow(2, q[file]);
    }

    private int maxQ() {
        return p == 6 ? 5 : 6;
    }

    private int times(int file, int print) {
        return bags.get(file).getOrDefault(print, 0);
    }

    private void change(int file, int print, int by) {
        int now = times(file, print) + by;
        if (now == 0) {
            bags.get(file).remove(print);
        } else {
            bags.get(file).put(print, now);
        }
    }

    private List<Integer> prints(int file) {
        List<Integer> all = new ArrayList<>();
        for (int print : bags.get(file).keySet()) {
            all.addAll(Collections.nCopies(times(file, print), print));
        }
        return all;
    }

    private void tell(long... numbers) {
        row = new ArrayList<>();
        for (long number : numbers) {
            row.add(number);
        }
    }

    private boolean wouldDouble(int file) {
        return 100 * (size(file) + 1) > load * slots(file) && q[file] < 6 && q[file] < p - 1;
    }

    private static int quotient(int print, int p, int q) {
        return print / (1 << (p - q));
    }

    private static int remainder(int print, int p, int q) {
        return print % (1 << (p - q));
    }

    /** For each print of a rising list its slot: each run moves on by one while a run stands in its way. */
    private static int[] lie(List<Integer> prints, int p, int q) {
        int slots = 1 << q;
        int[] length = new int[slots];
        for (int print : prints) {
            length[quotient(print, p, q)]++;
        }
        int[] late = new int[slots];
        boolean moved = true;
        while (moved) {
            moved = false;
            for (int home = 0; home < slots; home++) {
                if (length[home] == 0) {
                    continue;
                }
                int back = 1;
                while (length[(home - back + slots) % slots] == 0) {
                    back++;
                }
                int before = (home - back + slots) % slots;
                if (late[before] + length[before] - back > late[home]) {
                    late[home]++;
                    moved = true;
                }
            }
        }
        int[] result = new int[prints.size()];
        int[] seen = new int[slots];
        for (int i = 0; i < result.length; i++) {
            int home = quotient(prints.get(i), p, q);
            result[i] = (home + late[home] + seen[home]++) % slots;
        }
        return result;
    }

    /** Slots as marks (1, 2, 4) and 8 times the remainder. */
    private static int[] cells(List<Integer> prints, int p, int q) {
        int[] cells = new int[1 << q];
        int[] where = lie(prints, p, q);
        for (int i = 0; i < where.length; i++) {
            int home = quotient(prints.get(i), p, q);
            cells[home] |= 1;
            cells[where[i]] |= remainder(prints.get(i), p, q) * 8;
            if (i > 0 && quotient(prints.get(i - 1), p, q) == home) {
                cells[where[i]] |= 2;
            }
            if (where[i] != home) {
                cells[where[i]] |= 4;
            }
        }
        return cells;
    }

    private int[] cells(int file) {
        return cells(prints(file), p, q[file]);
    }

    private int[] where(int file) {
        return lie(prints(file), p, q[file]);
    }

    private static boolean[] bits(int[] cells, int p, int q) {
        int width = p - q + 3;
        int words = (cells.length * width + 63) / 64;
        boolean[] bits = new boolean[64 * words];
        for (int i = 0; i < cells.length * width; i++) {
            bits[i] = (cells[i / width] >> (i % width)) % 2 == 1;
        }
        return bits;
    }

    /** The prints that lie as the cells say, as a filter is read slot by slot; null if none do. */
    private List<Integer> decode(int[] cells, int q) {
        int slots = cells.length;
        List<Integer> prints = new ArrayList<>();
        for (int s = 0; s < slots; s++) {
            if (cells[s] % 8 == 0) {
                continue;
            }
            int start = s;
            int steps = 0;
            while (cells[start] / 4 % 2 == 1 && steps++ < slots) {
                start = (start + slots - 1) % slots;
            }
            int runs = 0;
            for (int i = start; ; i = (i + 1) % slots) {
                runs += cells[i] / 2 % 2 == 0 ? 1 : 0;
                if (i == s) {
                    break;
                }
            }
            int home = start;
            int seen = 0;
            for (int i = 0; i < slots && seen < runs; i++) {
                home = (start + i) % slots;
                seen += cells[home] % 2;
            }
            prints.add(home * (1 << (p - q)) + cells[s] / 8);
        }
        Collections.sort(prints);
        if (prints.size() == slots || !java.util.Arrays.equals(cells(prints, p, q), cells)) {
            return null;
        }
        return prints;
    }

    private int become(int file, int[] cells, int newQ) {
        List<Integer> prints = decode(cells, newQ);
        if (prints == null) {
            return -300;
        }
        bags.get(file).clear();
        for (int print : prints) {
            change(file, print, 1);
        }
        q[file] = newQ;
        return prints.size();
    }

    private static int looked(List<Integer> prints, int print, int p, int q) {
        int seen = 0;
        for (int other : prints) {
            if (quotient(other, p, q) == quotient(print, p, q)) {
                seen++;
                if (other > print) {
                    break;
                }
            }
        }
        return seen;
    }

    private int looked(int file, int print) {
        return looked(prints(file), print, p, q[file]);
    }

    private String takeText() {
        String all = text;
        text = "";
        return all;
    }

    /** The clusters of a file, each as its slots from the first on. */
    private List<List<Integer>> clusterList(int file) {
        int[] cells = cells(file);
        List<List<Integer>> all = new ArrayList<>();
        for (int s = 0; s < cells.length; s++) {
            if (cells[s] % 8 != 0 && cells[s] / 4 % 2 == 0) {
                List<Integer> one = new ArrayList<>();
                one.add(s);
                int next = (s + 1) % cells.length;
                while (cells[next] / 4 % 2 == 1) {
                    one.add(next);
                    next = (next + 1) % cells.length;
                }
                all.add(one);
            }
        }
        return all;
    }

    // ---- the calls

    int shape(int newP, int newMult) {
        if (newP < 6 || newP > 14 || newMult % 2 == 0) {
            return -1;
        }
        int was = p;
        p = newP;
        mult = newMult;
        for (int file = 0; file < 2; file++) {
            bags.get(file).clear();
            q[file] = 3;
        }
        return was;
    }

    int load(int v) {
        if (v < 50 || v > 95) {
            return -1;
        }
        if (v == load) {
            return -2;
        }
        int was = load;
        load = v;
        return was;
    }

    int print(int file, int key) {
        if (noFile(file) || noKey(key)) {
            return -1;
        }
        int print = printOf(key);
        tell(quotient(print, p, q[file]), remainder(print, p, q[file]));
        return print;
    }

    private boolean put(int file, int key) {
        if (wouldDouble(file)) {
            q[file]++;
        } else if (size(file) == slots(file) - 1) {
            return false;
        }
        change(file, printOf(key), 1);
        return true;
    }

    int puts(int file, int key) {
        if (noFile(file) || noKey(key)) {
            return -1;
        }
        if (!put(file, key)) {
            return -5;
        }
        tell(where(file)[prints(file).lastIndexOf(printOf(key))], size(file));
        return slots(file);
    }

    int takes(int file, int key) {
        if (noFile(file) || noKey(key)) {
            return -1;
        }
        if (times(file, printOf(key)) == 0) {
            return -2;
        }
        change(file, printOf(key), -1);
        tell(size(file));
        return times(file, printOf(key));
    }

    int has(int file, int key) {
        if (noFile(file) || noKey(key)) {
            return -1;
        }
        tell(looked(file, printOf(key)));
        return times(file, printOf(key));
    }

    int twin(int key) {
        if (noKey(key)) {
            return -1;
        }
        int least = -2;
        for (int other = 9999; other >= 0; other--) {
            if (other != key && (key - other) * 1L != 0 && (other * mult) >>> (32 - p) == printOf(key)) {
                least = other;
            }
        }
        return least;
    }

    /** The place of the first sign that can't stand, or -1: by the longest beginning of a right list. */
    private static int faultOf(String keys, boolean outs) {
        if (keys.isEmpty()) {
            return -1;
        }
        String one = outs ? "~?[0-9]{1,5}" : "[0-9]{1,5}";
        String begun = outs ? "(|~|" + one + ")" : "(|" + one + ")";
        for (int n = 1; n <= keys.length(); n++) {
            if (!keys.substring(0, n).matches("(" + one + ",)*" + begun)) {
                return n - 1;
            }
        }
        return keys.matches("(" + one + ",)*" + one) ? -1 : keys.length();
    }

    int keys(int file) {
        String all = takeText();
        if (noFile(file)) {
            return -1;
        }
        int fault = faultOf(all, true);
        if (fault >= 0) {
            return -1 - fault;
        }
        int done = 0;
        int failed = 0;
        for (String one : all.isEmpty() ? new String[0] : all.split(",")) {
            boolean out = one.startsWith("~");
            int key = Integer.parseInt(out ? one.substring(1) : one);
            boolean can = out ? times(file, printOf(key)) > 0 : put(file, key);
            if (!can) {
                failed = 1;
                break;
            }
            if (out) {
                change(file, printOf(key), -1);
            }
            done++;
        }
        tell(failed, size(file));
        return done;
    }

    int wrongs(int file) {
        String all = takeText();
        if (noFile(file)) {
            return -1;
        }
        int fault = faultOf(all, false);
        if (fault >= 0) {
            return -1 - fault;
        }
        List<Integer> told = new ArrayList<>();
        int missing = 0;
        for (String one : all.isEmpty() ? new String[0] : all.split(",")) {
            told.add(Integer.parseInt(one));
            missing += times(file, printOf(Integer.parseInt(one))) == 0 ? 1 : 0;
        }
        int least = -1;
        int wrong = 0;
        for (int key = 999; key >= 0; key--) {
            if (bags.get(file).containsKey((key * mult) >>> (32 - p)) && !told.contains(key)) {
                wrong++;
                least = key;
            }
        }
        tell(least, missing);
        return wrong;
    }

    int slot(int file, int i) {
        if (noFile(file) || i < 0 || i >= slots(file)) {
            return -1;
        }
        int cell = cells(file)[i];
        if (cell % 8 == 0) {
            return -2;
        }
        int[] where = where(file);
        for (int k = 0; k < where.length; k++) {
            if (where[k] == i) {
                tell(cell % 2, cell / 2 % 2, cell / 4 % 2, prints(file).get(k));
            }
        }
        return cell / 8;
    }

    private boolean noWord(int file, int k) {
        return noFile(file) || k < 0 || k > (slots(file) * (p - q[file] + 3) - 1) / 64;
    }

    long word(int file, int k) {
        if (noWord(file, k)) {
            throw new NoSuchElementException();
        }
        return word(bits(cells(file), p, q[file]), k);
    }

    private static long word(boolean[] bits, int k) {
        long word = 0;
        for (int i = 63; i >= 0; i--) {
            word = word * 2 + (bits[64 * k + i] ? 1 : 0);
        }
        return word;
    }

    /** The words of a file with these prints, rising. */
    static long[] words(int[] prints, int p, int q) {
        List<Integer> all = new ArrayList<>();
        for (int print : prints) {
            all.add(print);
        }
        boolean[] bits = bits(cells(all, p, q), p, q);
        long[] words = new long[bits.length / 64];
        for (int k = 0; k < words.length; k++) {
            words[k] = word(bits, k);
        }
        return words;
    }

    int lays(int file) {
        String all = takeText();
        if (noFile(file)) {
            return -1;
        }
        int newQ = all.startsWith("3") ? 3 : all.startsWith("4") ? 4 : 0;
        if (newQ == 0) {
            return -1;
        }
        int[] cells = new int[1 << newQ];
        for (int at = 1; at < 1 + 4 * cells.length; at++) {
            boolean marks = at % 4 == 1;
            String allowed = marks ? "01234567" : "0123456789abcdef";
            int digit = at < all.length() ? allowed.indexOf(all.charAt(at)) : -1;
            if (digit < 0) {
                return -1 - at;
            }
            int i = (at - 1) / 4;
            int rest = cells[i] / 8 * 16 + digit;
            cells[i] = marks ? digit : cells[i] % 8 + 8 * rest;
            if (at % 4 == 0 && rest >= 1 << (p - newQ)) {
                return -1 - at;
            }
        }
        if (all.length() > 1 + 4 * cells.length) {
            return -1 - (1 + 4 * cells.length);
        }
        return become(file, cells, newQ);
    }

    int sets(int file, int k, int high, int low) {
        if (noWord(file, k)) {
            return -1;
        }
        long word = Long.parseUnsignedLong(String.format("%08x%08x", high, low), 16);
        if (word == word(file, k)) {
            return -2;
        }
        boolean[] bits = bits(cells(file), p, q[file]);
        for (int i = 0; i < 64; i++) {
            bits[64 * k + i] = (word >>> i) % 2 != 0;
        }
        int width = p - q[file] + 3;
        int[] cells = new int[slots(file)];
        for (int i = 0; i < bits.length; i++) {
            if (bits[i] && i >= cells.length * width) {
                return -300;
            }
            if (bits[i]) {
                cells[i / width] += 1 << (i % width);
            }
        }
        return become(file, cells, q[file]);
    }

    int run(int file, int quotient) {
        if (noFile(file) || quotient < 0 || quotient >= slots(file)) {
            return -1;
        }
        List<Long> told = new ArrayList<>();
        List<Integer> prints = prints(file);
        for (int i = 0; i < prints.size(); i++) {
            if (quotient(prints.get(i), p, q[file]) == quotient) {
                if (told.isEmpty()) {
                    told.add((long) where(file)[i]);
                }
                told.add((long) remainder(prints.get(i), p, q[file]));
            }
        }
        if (told.isEmpty()) {
            return -2;
        }
        row = told;
        return told.size() - 1;
    }

    int cluster(int file, int i) {
        if (noFile(file) || i < 0 || i >= slots(file)) {
            return -1;
        }
        for (List<Integer> one : clusterList(file)) {
            if (one.contains(i)) {
                int runs = 0;
                for (int s : one) {
                    runs += cells(file)[s] / 2 % 2 == 0 ? 1 : 0;
                }
                tell(one.get(0), runs);
                return one.size();
            }
        }
        return -2;
    }

    int clusters(int file) {
        if (noFile(file)) {
            return -1;
        }
        int most = 0;
        int first = -1;
        for (List<Integer> one : clusterList(file)) {
            if (one.size() > most) {
                most = one.size();
                first = one.get(0);
            }
        }
        tell(most, first);
        return clusterList(file).size();
    }

    int would(int file, int key) {
        if (noFile(file) || noKey(key)) {
            return -1;
        }
        if (wouldDouble(file)) {
            return -3;
        }
        if (size(file) == slots(file) - 1) {
            return -5;
        }
        List<Integer> now = new ArrayList<>();
        for (int s : where(file)) {
            now.add(s);
        }
        change(file, printOf(key), 1);
        List<Integer> then = new ArrayList<>();
        for (int s : where(file)) {
            then.add(s);
        }
        int at = prints(file).lastIndexOf(printOf(key));
        change(file, printOf(key), -1);
        tell(then.remove(at));
        int moved = 0;
        for (int i = 0; i < now.size(); i++) {
            moved += now.get(i).equals(then.get(i)) ? 0 : 1;
        }
        return moved;
    }

    int looks(int file) {
        if (noFile(file)) {
            return -1;
        }
        int all = 0;
        int most = 0;
        int which = -1;
        for (int print : prints(file)) {
            int looked = looked(file, print);
            all += looked;
            if (looked > most) {
                most = looked;
                which = print;
            }
        }
        tell(most, which, bags.get(file).size());
        return all;
    }

    int nth(int file, int i) {
        if (noFile(file) || i < 0 || i >= size(file)) {
            return -1;
        }
        tell(where(file)[i]);
        return prints(file).get(i);
    }

    int best(int file) {
        if (noFile(file)) {
            return -1;
        }
        long[] all = {-1, -1, -1, -1};
        int best = -1;
        for (int i = 3; i >= 0; i--) {
            if (3 + i < p && size(file) < 1 << (3 + i)) {
                all[i] = 0;
                for (int print : prints(file)) {
                    all[i] += looked(prints(file), print, p, 3 + i);
                }
                best = best < 0 || all[i] <= all[best - 3] ? 3 + i : best;
            }
        }
        tell(all);
        return best;
    }

    int span(int file, int v, int w) {
        if (noFile(file) || v < 0 || w < v || w >= 1 << p) {
            return -1;
        }
        List<Integer> touched = new ArrayList<>();
        List<Integer> prints = prints(file);
        for (int i = 0; i < prints.size(); i++) {
            if (prints.get(i) >= v && prints.get(i) <= w) {
                touched.add(where(file)[i]);
            }
        }
        int found = 0;
        int together = 0;
        for (List<Integer> one : clusterList(file)) {
            if (!Collections.disjoint(one, touched)) {
                found++;
                together += one.size();
            }
        }
        tell(found, together);
        return touched.size();
    }

    int after(int file, int v) {
        if (noFile(file) || v < 0) {
            return -1;
        }
        Integer print = bags.get(file).ceilingKey(v);
        if (print == null) {
            return -2;
        }
        tell(times(file, print), where(file)[prints(file).indexOf(print)]);
        return print;
    }

    int gaps(int file) {
        if (noFile(file)) {
            return -1;
        }
        int[] cells = cells(file);
        int most = 0;
        int first = -1;
        int empty = 0;
        for (int s = cells.length - 1; s >= 0; s--) {
            int n = 0;
            while (n < cells.length && cells[(s + n) % cells.length] == 0) {
                n++;
            }
            empty += n > 0 ? 1 : 0;
            if (n > 0 && n >= most) {
                most = n;
                first = s;
            }
        }
        tell(most, first);
        return empty;
    }

    int doubles(int file) {
        if (noFile(file)) {
            return -1;
        }
        if (q[file] == 6 || q[file] == p - 1) {
            return -2;
        }
        q[file]++;
        return slots(file);
    }

    int halves(int file) {
        if (noFile(file)) {
            return -1;
        }
        if (q[file] == 3) {
            return -2;
        }
        if (size(file) > (1 << (q[file] - 1)) - 1) {
            return -5;
        }
        q[file]--;
        return slots(file);
    }

    private boolean pour(int from, int to) {
        int all = size(0) + size(1);
        if (all > (1 << maxQ()) - 1) {
            return false;
        }
        for (int print : prints(from)) {
            change(to, print, 1);
        }
        bags.get(from).clear();
        while (100 * all > load * slots(to) && q[to] < maxQ()) {
            q[to]++;
        }
        return true;
    }

    int merges() {
        int came = size(1);
        if (came == 0) {
            return -2;
        }
        if (!pour(1, 0)) {
            return -5;
        }
        tell(slots(0), size(0));
        return came;
    }

    int spills(int key) {
        if (noKey(key)) {
            return -1;
        }
        boolean over = wouldDouble(0) || size(0) == slots(0) - 1;
        if (over && !pour(0, 1)) {
            return -5;
        }
        change(0, printOf(key), 1);
        tell(size(0), size(1));
        return over ? 1 : 0;
    }

    int both(int key) {
        if (noKey(key)) {
            return -1;
        }
        int print = printOf(key);
        tell(looked(0, print), times(0, print) > 0 ? 0 : looked(1, print));
        return times(0, print) + times(1, print);
    }

    int parts(int v) {
        if (v < 0 || v >= 1 << p) {
            return -1;
        }
        List<Integer> going = new ArrayList<>();
        for (int print : prints(0)) {
            if (print >= v) {
                going.add(print);
            }
        }
        if (going.isEmpty()) {
            return -2;
        }
        if (size(1) > 0) {
            return -3;
        }
        for (int print : going) {
            change(0, print, -1);
            change(1, print, 1);
        }
        q[1] = q[0];
        return going.size();
    }

    int keeps(boolean both) {
        int gone = 0;
        for (int print : new ArrayList<>(bags.get(0).keySet())) {
            int here = times(0, print);
            int left = both ? Math.min(here, times(1, print)) : Math.max(0, here - times(1, print));
            change(0, print, left - here);
            gone += here - left;
        }
        return gone == 0 ? -2 : gone;
    }

    int clears(int file) {
        if (noFile(file)) {
            return -1;
        }
        int n = size(file);
        bags.get(file).clear();
        q[file] = 3;
        return n;
    }

    int common() {
        int shared = 0;
        int unlike = 0;
        boolean all0 = true;
        boolean all1 = true;
        for (int print = 0; print < 1 << p; print++) {
            int less = Math.min(times(0, print), times(1, print));
            shared += less;
            unlike += less > 0 ? 1 : 0;
            all0 &= times(0, print) <= times(1, print);
            all1 &= times(1, print) <= times(0, print);
        }
        tell(unlike, all0 ? 1 : 0, all1 ? 1 : 0);
        return shared;
    }

    int full(int file) {
        if (noFile(file)) {
            return -1;
        }
        int like = 0;
        for (int key = 0; key < 1000; key++) {
            like += bags.get(file).containsKey((key * mult) >>> (32 - p)) ? 1 : 0;
        }
        tell(Double.doubleToLongBits((double) bags.get(file).size() / (1 << p)), like);
        return Float.floatToIntBits((float) size(file) / slots(file));
    }

    int count(int file, int what) {
        if (what < 0 || what > 10 || (what < 6 && noFile(file))) {
            return -1;
        }
        if (what >= 3 && what <= 5) {
            int n = 0;
            for (int cell : cells(file)) {
                n += (cell >> (what - 3)) % 2;
            }
            return n;
        }
        switch (what) {
            case 0: return size(file);
            case 1: return slots(file);
            case 2: return q[file];
            case 6: return p;
            case 7: return mult;
            case 8: return load;
            case 9: return row.size();
            default: return text.length();
        }
    }

    int sign(int v) {
        if (text.length() > 76) {
            return -1;
        }
        for (int i = 3; i >= 0; i--) {
            text += (char) ((v >> (8 * i)) & 0xff);
        }
        return text.length();
    }

    boolean end(int n) {
        if (n < 0 || n > text.length()) {
            return false;
        }
        text = text.substring(0, n);
        return true;
    }

    long row(int i) {
        if (i < 0 || i >= row.size()) {
            throw new NoSuchElementException();
        }
        return row.get(i);
    }

    /** A file of Q 3 or 4 as lays() reads it, for tests that change a sign of it. */
    String asText(int file) {
        StringBuilder all = new StringBuilder();
        all.append(q[file]);
        for (int cell : cells(file)) {
            all.append(cell % 8).append(String.format("%03x", cell / 8));
        }
        return all.toString();
    }
}
