import java.util.NoSuchElementException;

/** Long runs of calls, drawn by a fixed rule, on the program and on the Model: all answers must be like. */
public final class ModelTest {
    private static final int RUNS = 5000;
    /** Behind this many calls an object may answer what it likes. */
    private static final int CALLS = 512;
    /** The most calls of one step: a text of 80 signs, two calls, a ROW of 64 numbers and the state, and these at the end. */
    private static final int MOST_OF_A_STEP = 22 + 2 + 2 * (64 + 6);
    private static final long THROWN = Long.MIN_VALUE + 7;
    private static final int[] EDGES = {-1, 0, 1, 2, 3, 7, 8, 15, 16, 31, 32, 63, 64, 1023, 1024, 9999, 10000, 16383,
        16384, 99999, 100000, Integer.MAX_VALUE, Integer.MIN_VALUE};

    private static long seed = 20261117L;
    private QuotientFile x;
    private Model m;
    private int keySpan;
    private int putsOften;
    private int used = 0;

    public static void main(String[] args) {
        for (int run = 0; run < RUNS; run++) {
            new ModelTest().oneRun(run);
        }
        Due.finish();
    }

    private static int draw(int below) {
        seed = seed * 6364136223846793005L + 1442695040888963407L;
        return (int) ((seed >>> 33) % below);
    }

    private int key() {
        return draw(40) == 0 ? EDGES[draw(EDGES.length)] : draw(keySpan);
    }

    private int file() {
        return draw(50) == 0 ? draw(4) - 1 : draw(2);
    }

    private int number(int below) {
        return draw(20) == 0 ? EDGES[draw(EDGES.length)] : draw(below + 1);
    }

    private void oneRun(int run) {
        x = new QuotientFile();
        m = new Model();
        keySpan = new int[] {10, 60, 1000, 100000}[draw(4)];
        putsOften = draw(4);
        if (draw(3) > 0) {
            shape();
        }
        if (draw(2) == 0) {
            fill(run);
        }
        while (used + MOST_OF_A_STEP <= CALLS) {
            String call = "run " + run + ", behind " + used + " calls, ";
            int which = draw(4) < putsOften ? 3 + draw(3) / 2 : draw(41);
            used++;
            one(call + which, which);
            if (draw(3) == 0) {
                rows(call + which);
            }
        }
        rows("run " + run + ", its end");
    }

    private void fill(int run) {
        int file = draw(2);
        for (int i = draw(64); i > 0; i--) {
            int key = key();
            used++;
            Due.is("run " + run + ", fill", x.puts(file, key), m.puts(file, key));
        }
    }

    private void shape() {
        used++;
        int p = draw(10) == 0 ? number(16) : 6 + draw(9);
        int mult = draw(2) == 0 ? (1 << (32 - Math.floorMod(p, 32))) + 1 : draw(Integer.MAX_VALUE) - draw(Integer.MAX_VALUE);
        mult = draw(8) == 0 ? mult : mult | 1;
        Due.is("shape(" + p + ", " + mult + ")", x.shape(p, mult), m.shape(p, mult));
    }

    private void rows(String call) {
        used += 6 + m.count(0, 9);
        Due.is(call + ": numbers of the row", x.count(0, 9), m.count(0, 9));
        for (int i = 0; i < m.count(0, 9); i++) {
            Due.is(call + ": row(" + i + ")", x.row(i), m.row(i));
        }
        Due.is(call + ": signs", x.count(0, 10), m.count(0, 10));
        for (int file = 0; file < 2; file++) {
            Due.is(call + ": prints of " + file, x.count(file, 0), m.count(file, 0));
            Due.is(call + ": Q of " + file, x.count(file, 2), m.count(file, 2));
        }
    }

    private long wordOf(int file, int k) {
        try {
            return x.word(file, k);
        } catch (NoSuchElementException e) {
            return THROWN;
        }
    }

    private long modelWord(int file, int k) {
        try {
            return m.word(file, k);
        } catch (NoSuchElementException e) {
            return THROWN;
        }
    }

    private void tellText(String signs) {
        used += 2 + (signs.length() + 3) / 4;
        Due.is("end(0)", x.end(0), m.end(0));
        for (int i = 0; i < signs.length(); i += 4) {
            int v = 0;
            for (int j = i; j < i + 4; j++) {
                v = v << 8 | (j < signs.length() ? signs.charAt(j) : 0);
            }
            Due.is("sign(" + v + ")", x.sign(v), m.sign(v));
        }
        Due.is("end(" + signs.length() + ")", x.end(signs.length()), m.end(signs.length()));
    }

    private String damaged(String signs, String by) {
        StringBuilder all = new StringBuilder(signs);
        for (int i = draw(3); i > 0 && all.length() > 0; i--) {
            all.setCharAt(draw(all.length()), by.charAt(draw(by.length())));
        }
        if (draw(12) == 0) {
            all.setLength(draw(all.length() + 1));
        } else if (draw(12) == 0) {
            all.append(by.charAt(draw(by.length())));
        }
        return all.substring(0, Math.min(80, all.length()));
    }

    private String keyList(boolean outs) {
        StringBuilder all = new StringBuilder();
        for (int i = draw(14); i > 0; i--) {
            all.append(outs && draw(3) == 0 ? "~" : "").append(draw(keySpan)).append(i > 1 ? "," : "");
        }
        String signs = all.substring(0, Math.min(80, all.length()));
        return draw(3) > 0 ? signs : damaged(signs, "~,0123456789x\u00b1");
    }

    private String layText(int file) {
        if (m.count(file, 2) > 4 || draw(8) == 0) {
            StringBuilder all = new StringBuilder(draw(2) == 0 ? "3" : "4");
            int slots = all.charAt(0) == '3' ? 8 : 16;
            for (int i = 0; i < slots; i++) {
                all.append("01467".charAt(draw(5))).append("00").append(draw(8));
            }
            return all.toString();
        }
        return damaged(m.asText(file), "01234567890abcdefg");
    }

    private void setWord(String call, int file) {
        int k = number(11);
        long word = modelWord(file, k);
        if (word != THROWN) {
            for (int i = draw(4); i > 0; i--) {
                word ^= 1L << draw(64);
            }
            if (draw(6) == 0) {
                word = 0;
            }
        } else {
            word = draw(100);
        }
        int high = (int) (word >>> 32);
        Due.is(call, x.sets(file, k, high, (int) word), m.sets(file, k, high, (int) word));
    }

    private void one(String call, int which) {
        int file = file();
        int key = key();
        switch (which) {
            case 0:
                if (draw(12) == 0) {
                    shape();
                }
                break;
            case 1:
                int v = draw(5) == 0 ? number(100) : 50 + draw(46);
                Due.is(call, x.load(v), m.load(v));
                break;
            case 2: Due.is(call, x.print(file, key), m.print(file, key)); break;
            case 3: Due.is(call, x.puts(file, key), m.puts(file, key)); break;
            case 4: Due.is(call, x.takes(file, key), m.takes(file, key)); break;
            case 5: Due.is(call, x.has(file, key), m.has(file, key)); break;
            case 6: if (draw(4) == 0) { Due.is(call, x.twin(key), m.twin(key)); } break;
            case 7: tellText(keyList(true)); Due.is(call, x.keys(file), m.keys(file)); break;
            case 8: tellText(keyList(false)); Due.is(call, x.wrongs(file), m.wrongs(file)); break;
            case 9: int i = number(64); Due.is(call, x.slot(file, i), m.slot(file, i)); break;
            case 10: int k = number(11); Due.is(call, wordOf(file, k), modelWord(file, k)); break;
            case 11: tellText(layText(draw(2))); Due.is(call, x.lays(file), m.lays(file)); break;
            case 12: setWord(call, file); break;
            case 13: int q = number(64); Due.is(call, x.run(file, q), m.run(file, q)); break;
            case 14: int s = number(64); Due.is(call, x.cluster(file, s), m.cluster(file, s)); break;
            case 15: Due.is(call, x.clusters(file), m.clusters(file)); break;
            case 16: Due.is(call, x.would(file, key), m.would(file, key)); break;
            case 17: Due.is(call, x.looks(file), m.looks(file)); break;
            case 18: int n = number(64); Due.is(call, x.nth(file, n), m.nth(file, n)); break;
            case 19: Due.is(call, x.best(file), m.best(file)); break;
            default: more(call, which, file, key); break;
        }
    }

    private void more(String call, int which, int file, int key) {
        int prints = 1 << m.count(0, 6);
        int v = number(prints);
        switch (which) {
            case 20: int w = number(prints); Due.is(call, x.span(file, v, w), m.span(file, v, w)); break;
            case 21: Due.is(call, x.after(file, v), m.after(file, v)); break;
            case 22: Due.is(call, x.gaps(file), m.gaps(file)); break;
            case 23: Due.is(call, x.doubles(file), m.doubles(file)); break;
            case 24: Due.is(call, x.halves(file), m.halves(file)); break;
            case 25: Due.is(call, x.merges(), m.merges()); break;
            case 26: Due.is(call, x.spills(key), m.spills(key)); break;
            case 27: Due.is(call, x.both(key), m.both(key)); break;
            case 28: Due.is(call, x.parts(v), m.parts(v)); break;
            case 29: boolean b = draw(2) == 0; Due.is(call, x.keeps(b), m.keeps(b)); break;
            case 30: if (draw(6) == 0) { Due.is(call, x.clears(file), m.clears(file)); } break;
            case 31: Due.is(call, x.common(), m.common()); break;
            case 32: Due.is(call, x.full(file), m.full(file)); break;
            case 33: int what = number(11); Due.is(call, x.count(file, what), m.count(file, what)); break;
            case 34: Due.is(call, x.sign(v), m.sign(v)); break;
            case 35: int n = number(80); Due.is(call, x.end(n), m.end(n)); break;
            case 36: Due.noNumber(call, x, m.count(0, 9) + draw(3)); break;
            case 37: Due.is(call, x.keys(file), m.keys(file)); break;
            case 38: Due.is(call, x.lays(file), m.lays(file)); break;
            case 39: Due.is(call, x.wrongs(file), m.wrongs(file)); break;
            default: tellText(m.asText(draw(2)).substring(0, 33)); Due.is(call, x.lays(file), m.lays(file)); break;
        }
    }
}
