import java.math.BigInteger;
import java.util.LinkedHashMap;
import java.util.Map;
import java.util.function.ToLongFunction;

/** The terms: their bounds on both sides, how files lie, when PUT IN doubles, what refused calls leave. */
public final class EdgesOfTermsTest {
    private static final int MIN = Integer.MIN_VALUE;
    private static final int MAX = Integer.MAX_VALUE;

    public static void main(String[] args) {
        keysOutOfBounds();
        keysAtBounds();
        printsGoRound();
        numbersAtFirst();
        filesOutOfBounds();
        filesThatReadTheText();
        likePrints();
        quotientsAndRemainders();
        greatestQ();
        runsByRemainders();
        runsNearHome();
        runsGoingRound();
        fullFiles();
        oneWayToLie();
        marks();
        bits();
        clustersBesideOneAnother();
        loadAtItsBound();
        doubledByEachCall();
        notDoubledByTheGreatestQ();
        doubledOnce();
        doubledAndHalved();
        rowToldLast();
        noneAheadOfOthers();
        Bound.finish();
    }

    private static void keysOutOfBounds() {
        Bound.says(0, "PRINT of a KEY (0 .. 99999)");
        for (int key : new int[] {-1, 100000, MIN, MAX}) {
            Map<String, ToLongFunction<QuotientFile>> calls = new LinkedHashMap<>();
            for (int file = 0; file < 2; file++) {
                int f = file;
                calls.put("print " + f, x -> x.print(f, key));
                calls.put("puts " + f, x -> x.puts(f, key));
                calls.put("takes " + f, x -> x.takes(f, key));
                calls.put("has " + f, x -> x.has(f, key));
                calls.put("would " + f, x -> x.would(f, key));
            }
            calls.put("twin", x -> x.twin(key));
            calls.put("spills", x -> x.spills(key));
            calls.put("both", x -> x.both(key));
            calls.forEach((name, call) -> Start.sample().when(name + " of key " + key, call).stays(-1));
        }
    }

    private static void keysAtBounds() {
        Bound.says(0, "PRINT of a KEY (0 .. 99999)");
        // By P 6, 99999 is 1562 times 64 and 31.
        Start.sample().when("print(1, 0)", x -> x.print(1, 0)).answers(0).row(0, 0).holds();
        Start.sample().when("print(1, 99999)", x -> x.print(1, 99999)).answers(31).row(7, 3).holds();
        Start.sample().when("puts(1, 0)", x -> x.puts(1, 0)).answers(16).row(0, 4).file(1, 4, 0, 5, 5, 40).holds();
        Start.sample().when("puts(1, 99999)", x -> x.puts(1, 99999))
            .answers(16).row(7, 4).file(1, 4, 5, 5, 31, 40).holds();
        Start.sample().when("would(1, 0)", x -> x.would(1, 0)).answers(0).row(0).holds();
        Start.sample().when("would(1, 99999)", x -> x.would(1, 99999)).answers(0).row(7).holds();
        ends().when("takes(0, 0)", x -> x.takes(0, 0)).answers(0).row(1).file(0, 3, 31).holds();
        ends().when("takes(0, 99999)", x -> x.takes(0, 99999)).answers(0).row(1).file(0, 3, 0).holds();
        ends().when("has(0, 0)", x -> x.has(0, 0)).answers(1).row(1).holds();
        ends().when("has(0, 99999)", x -> x.has(0, 99999)).answers(1).row(1).holds();
        ends().when("twin(0)", x -> x.twin(0)).stays(64);
        ends().when("twin(99999)", x -> x.twin(99999)).stays(31);
        ends().when("spills(0)", x -> x.spills(0)).answers(0).row(3, 1).file(0, 3, 0, 0, 31).holds();
        ends().when("spills(99999)", x -> x.spills(99999)).answers(0).row(3, 1).file(0, 3, 0, 31, 31).holds();
        ends().when("both(0)", x -> x.both(0)).answers(1).row(1, 0).holds();
        ends().when("both(99999)", x -> x.both(99999)).answers(2).row(1, 0).holds();
    }

    private static Start ends() {
        return Start.of(6).file(0, 3, 0, 31).file(1, 3, 31);
    }

    private static void printsGoRound() {
        Bound.says(0, "KEY times MULT (as ints that go round), its highest P bits");
        int[] mults = {-1640531527, 1, -1, 3, MAX, MIN + 1, 65537, (1 << 26) + 1};
        int[] keys = {0, 1, 2, 3, 1000, 32768, 65535, 65536, 99998, 99999};
        BigInteger round = BigInteger.ONE.shiftLeft(32);
        for (int p = 6; p <= 14; p++) {
            for (int mult : mults) {
                QuotientFile x = new QuotientFile();
                x.shape(p, mult);
                for (int key : keys) {
                    BigInteger product = BigInteger.valueOf(key).multiply(BigInteger.valueOf(mult)).mod(round);
                    int due = product.shiftRight(32 - p).intValue();
                    String call = Bound.sentence() + "P " + p + ", MULT " + mult + ": print(0, " + key + ")";
                    Due.is(call, x.print(0, key), due);
                    Due.row(call, x, due / (1 << (p - 3)), due % (1 << (p - 3)));
                }
            }
        }
        // 1 times -1 is all bits, 1 times the least odd int the highest and the lowest bit alone.
        QuotientFile x = new QuotientFile();
        x.shape(14, -1);
        Due.is("MULT -1: print(0, 1)", x.print(0, 1), 16383);
        x.shape(14, MIN + 1);
        Due.is("MULT MIN + 1: print(0, 1)", x.print(0, 1), 8192);
        Due.is("MULT MIN + 1: print(0, 2)", x.print(0, 2), 0);
    }

    private static void numbersAtFirst() {
        Bound.says(0, "P 6 .. 14 (10 at first), MULT an odd int (-1640531527 at first)");
        QuotientFile x = new QuotientFile();
        Due.is("P at first", x.count(0, 6), 10);
        Due.is("MULT at first", x.count(0, 7), -1640531527);
        Bound.says(0, "with Q 3 .. 6 (3 at first)");
        Due.is("Q of file 0 at first", x.count(0, 2), 3);
        Due.is("Q of file 1 at first", x.count(1, 2), 3);
        Bound.says(0, "SLOTS 0 .. 2 to the power of Q less 1");
        Due.is("slot(0, 7)", x.slot(0, 7), -2);
        Due.is("slot(0, 8)", x.slot(0, 8), -1);
        Bound.says(0, "LOAD 50 .. 95 (75 at first)");
        Due.is("LOAD at first", x.count(0, 8), 75);
        Bound.says(0, "ROW: numbers told last by a call that says so");
        Due.row("the row at first", x);
        Due.is("signs at first", x.count(0, 10), 0);
    }

    /** All calls that take a FILE and don't read THE TEXT, with what else they take in bounds. */
    private static Map<String, ToLongFunction<QuotientFile>> callsOf(int file) {
        Map<String, ToLongFunction<QuotientFile>> calls = new LinkedHashMap<>();
        calls.put("print", x -> x.print(file, 1));
        calls.put("puts", x -> x.puts(file, 1));
        calls.put("takes", x -> x.takes(file, 1));
        calls.put("has", x -> x.has(file, 1));
        calls.put("slot", x -> x.slot(file, 0));
        calls.put("sets", x -> x.sets(file, 0, 0, 0));
        calls.put("run", x -> x.run(file, 0));
        calls.put("cluster", x -> x.cluster(file, 0));
        calls.put("clusters", x -> x.clusters(file));
        calls.put("would", x -> x.would(file, 1));
        calls.put("looks", x -> x.looks(file));
        calls.put("nth", x -> x.nth(file, 0));
        calls.put("best", x -> x.best(file));
        calls.put("span", x -> x.span(file, 0, 63));
        calls.put("after", x -> x.after(file, 0));
        calls.put("gaps", x -> x.gaps(file));
        calls.put("doubles", x -> x.doubles(file));
        calls.put("halves", x -> x.halves(file));
        calls.put("clears", x -> x.clears(file));
        calls.put("full", x -> x.full(file));
        for (int what = 0; what <= 5; what++) {
            int w = what;
            calls.put("count " + w, x -> x.count(file, w));
        }
        return calls;
    }

    private static void filesOutOfBounds() {
        Bound.says(0, "(NONE: no such FILE, too.)");
        for (int file : new int[] {-1, 2, 3, MIN, MAX}) {
            callsOf(file).forEach((name, call) -> Start.sample().when(name + " of file " + file, call).stays(-1));
            Start.sample().when("word(" + file + ", 0)", x -> x.word(file, 0)).fails();
            for (int what = 6; what <= 10; what++) {
                int w = what;
                long[] due = {6, (1 << 26) + 1, 95, 2, 3};
                Start.sample().when("count(" + file + ", " + w + ")", x -> x.count(file, w)).stays(due[w - 6]);
            }
        }
        Bound.says(0, "FILES 0 and 1");
        for (int file = 0; file < 2; file++) {
            int f = file;
            callsOf(f).forEach((name, call) ->
                Due.is(name + " of file " + f + " is not refused", call.applyAsLong(Start.sample().make()) == -1, false));
            Start.sample().when("word(" + f + ", 1)", x -> x.word(1, 1)).stays(0);
        }
    }

    private static void filesThatReadTheText() {
        Bound.says(0, "Refused calls answer NONE and change nothing but THE TEXT, which a call that reads it empties.");
        String[] texts = {"", "5", "7,~", "3" + "0000".repeat(8), "x", "~9"};
        for (String text : texts) {
            for (int file : new int[] {-1, 2, MIN, MAX}) {
                Start.sample().text(text).when("keys of file " + file, x -> x.keys(file)).empties(-1);
                Start.sample().text(text).when("wrongs of file " + file, x -> x.wrongs(file)).empties(-1);
                Start.sample().text(text).when("lays of file " + file, x -> x.lays(file)).empties(-1);
            }
        }
        // A call that does not read it leaves it, refused or not.
        String full = "1".repeat(80);
        Start.sample().text(full).when("sign(0) of 80 signs", x -> x.sign(0)).stays(-1);
        Start.sample().text(full).when("end(81)", x -> x.end(81) ? 1 : 0).stays(0);
        Start.sample().text(full).when("count(0, 10)", x -> x.count(0, 10)).stays(80);
        Start.sample().text(full).when("shape(5, 1)", x -> x.shape(5, 1)).stays(-1);
        Start.sample().text(full).when("row(2)", x -> x.row(2)).fails();
    }

    private static void likePrints() {
        Bound.says(0, "each a bag of PRINTS (one may be in it more than once)");
        Start.of(6).file(0, 3, 9).when("puts(0, 9)", x -> x.puts(0, 9)).answers(8).row(2, 2).file(0, 3, 9, 9).holds();
        Start.of(6).file(0, 3, 9, 9).when("has(0, 9)", x -> x.has(0, 9)).answers(2).row(2).holds();
        Start.of(6).file(0, 3, 9, 9).when("takes(0, 9)", x -> x.takes(0, 9)).answers(1).row(1).file(0, 3, 9).holds();
        Start.of(6).file(0, 3, 9).when("takes(0, 9)", x -> x.takes(0, 9)).answers(0).row(0).file(0, 3).holds();
    }

    private static void quotientsAndRemainders() {
        Bound.says(0, "QUOTIENT of a PRINT: its highest Q bits (as a number), REMAINDER: its other bits");
        for (int p = 6; p <= 14; p++) {
            for (int q = 3; q <= 6 && q < p; q++) {
                int one = 1 << (p - q);
                int last = (1 << p) - 1;
                Start start = Start.of(p).file(0, q);
                start.when("the least print", x -> x.print(0, 0)).answers(0).row(0, 0).holds();
                start.when("the greatest of quotient 0", x -> x.print(0, one - 1)).answers(one - 1)
                    .row(0, one - 1).holds();
                start.when("the least of quotient 1", x -> x.print(0, one)).answers(one).row(1, 0).holds();
                start.when("the greatest print", x -> x.print(0, last)).answers(last)
                    .row((1 << q) - 1, one - 1).holds();
            }
        }
    }

    private static void greatestQ() {
        Bound.says(0, "Q below P: SLOTS 0 .. 2 to the power of Q less 1");
        for (int p = 6; p <= 14; p++) {
            int greatest = p == 6 ? 5 : 6;
            int size = 1 << greatest;
            Start.of(p).file(0, greatest).when("doubles(0) by the greatest Q", x -> x.doubles(0)).stays(-2);
            Start.of(p).file(0, greatest - 1).when("doubles(0) ahead of it", x -> x.doubles(0)).answers(size)
                .file(0, greatest).holds();
            Start.of(p).file(0, greatest).when("the last slot", x -> x.slot(0, size - 1)).stays(-2);
            Start.of(p).file(0, greatest).when("behind the last slot", x -> x.slot(0, size)).stays(-1);
            Start.of(p).file(0, greatest).when("the last quotient", x -> x.run(0, size - 1)).stays(-2);
            Start.of(p).file(0, greatest).when("behind the last quotient", x -> x.run(0, size)).stays(-1);
        }
    }

    private static void runsByRemainders() {
        Bound.says(0, "HOW IT LIES: the PRINTS of one QUOTIENT are a RUN, by REMAINDERS rising");
        Start.of(6).file(0, 3, 9, 10, 11).lies(0, "0000 1001 6002 6003 0000 0000 0000 0000");
        Start.of(6).file(0, 3, 8, 8, 15, 15).lies(0, "0000 1000 6000 6007 6007 0000 0000 0000");
        QuotientFile x = Start.of(6).make();
        Due.putAll(x, 0, 10, 8, 9);
        Due.is("run(0, 1)", x.run(0, 1), 3);
        Due.row("run(0, 1)", x, 1, 0, 1, 2);
    }

    private static void runsNearHome() {
        Bound.says(0, "RUNS lie in SLOTS, one PRINT a SLOT, by QUOTIENTS, each as near behind its HOME");
        Start.of(6).file(0, 3, 8, 16, 24, 25).lies(0, "0000 1000 1000 1000 6001 0000 0000 0000");
        Bound.says(0, "its HOME (SLOT number QUOTIENT) as can be, HOME itself if it can be");
        Start.of(6).file(0, 3, 8, 9, 24).lies(0, "0000 1000 6001 1000 0000 0000 0000 0000");
        Start.of(6).file(0, 3, 8, 9, 16, 40).lies(0, "0000 1000 7001 4000 0000 1000 0000 0000");
        Start.of(6).file(0, 3, 0, 8, 16, 24, 32, 40, 48).lies(0, "1000 1000 1000 1000 1000 1000 1000 0000");
        Bound.says(0, "behind the RUN of the next lesser QUOTIENT");
        Start.of(6).file(0, 3, 8, 9, 16).lies(0, "0000 1000 7001 4000 0000 0000 0000 0000");
        Start.of(6).file(0, 3, 8, 9, 10, 16, 24).lies(0, "0000 1000 7001 7002 4000 4000 0000 0000");
        Bound.says(0, "if that goes so far");
        // The run ahead goes just so far that the next one can lie in its home.
        Start.of(6).file(0, 3, 8, 9, 10, 32).lies(0, "0000 1000 6001 6002 1000 0000 0000 0000");
        Start.of(6).file(0, 3, 8, 9, 10, 11, 32).lies(0, "0000 1000 6001 6002 7003 4000 0000 0000");
    }

    private static void runsGoingRound() {
        Bound.says(0, "behind the last SLOT comes SLOT 0");
        Start.of(6).file(0, 3, 56).lies(0, "0000 0000 0000 0000 0000 0000 0000 1000");
        Start.of(6).file(0, 3, 56, 57).lies(0, "6001 0000 0000 0000 0000 0000 0000 1000");
        Start.of(6).file(0, 3, 48, 49, 63).lies(0, "4007 0000 0000 0000 0000 0000 1000 7001");
        Bound.says(0, "(going round: behind SLOT 0's lies that of the greatest one)");
        Start.of(6).file(0, 3, 0, 56).lies(0, "1000 0000 0000 0000 0000 0000 0000 1000");
        Start.of(6).file(0, 3, 0, 56, 57).lies(0, "7001 4000 0000 0000 0000 0000 0000 1000");
        Start.of(6).file(0, 3, 0, 48, 49, 50, 56).lies(0, "7002 4000 4000 0000 0000 0000 1000 7001");
        Start.of(6).file(0, 3, 0, 8, 48, 56, 57, 58).lies(0, "7001 7002 4000 4000 0000 0000 1000 1000");
        // The next lesser one of 2 is 7, as there is no run between.
        Start.of(6).file(0, 3, 16, 56, 57, 58, 59).lies(0, "6001 6002 7003 4000 0000 0000 0000 1000");
        Start.of(6).file(0, 3, 16, 56, 57, 58).lies(0, "6001 6002 1000 0000 0000 0000 0000 1000");
    }

    private static void fullFiles() {
        Bound.says(0, "At most SLOTS less 1 PRINTS are in a FILE.");
        Start.of(6).file(0, 3, 56, 57, 58, 59, 60, 61, 62).lies(0, "6001 6002 6003 6004 6005 6006 0000 1000");
        Start.of(6).file(0, 3, 0, 1, 2, 3, 4, 5, 6).lies(0, "1000 6001 6002 6003 6004 6005 6006 0000");
        Start.of(6).file(0, 3, Start.times(7, 44)).lies(0, "6004 6004 6004 6004 0000 1004 6004 6004");
        int[] many = Start.times(63, 5);
        Start.of(14).file(0, 6, many).when("puts(0, 6) into 63 of 64", x -> x.puts(0, 6)).stays(-5);
        Start.of(14).file(0, 6, Start.times(62, 5)).when("puts(0, 6) into 62 of 64", x -> x.puts(0, 6)).answers(64)
            .row(62, 63).file(0, 6, Start.with(Start.times(62, 5), 6)).holds();
        Start.of(14).file(0, 6, many).file(1, 3, 7).when("merges() with 63 of 64", x -> x.merges()).stays(-5);
        Start.of(14).file(0, 5, Start.times(31, 5)).when("31 of 32", x -> x.halves(0)).stays(-5);
        Start.of(14).file(0, 5, Start.times(15, 5)).when("15 of 32", x -> x.halves(0)).answers(16)
            .file(0, 4, Start.times(15, 5)).holds();
    }

    private static void oneWayToLie() {
        Bound.says(0, "(There is just one way to lie so.)");
        // Whatever comes first, and whatever has been there: as if they had come in order.
        int[][] orders = {{0, 8, 9, 56, 57}, {57, 56, 9, 8, 0}, {9, 0, 57, 8, 56}, {56, 0, 8, 57, 9}, {8, 57, 0, 9, 56}};
        for (int[] order : orders) {
            Start.of(6).when("in another order", x -> {
                Due.putAll(x, 0, order);
                return x.nth(0, 0);
            }).answers(0).row(1).file(0, 3, 0, 8, 9, 56, 57).holds();
            Start.of(6).when("with one that goes again", x -> {
                x.puts(0, 58);
                Due.putAll(x, 0, order);
                x.takes(0, 58);
                return x.nth(0, 0);
            }).answers(0).row(1).file(0, 3, 0, 8, 9, 56, 57).holds();
        }
        Start.of(6).file(0, 3, 0, 8, 9, 56, 57).lies(0, "7001 5000 4000 6001 0000 0000 0000 1000");
    }

    private static void marks() {
        Bound.says(0, "MARKS of a SLOT: OCCUPIED: there is a RUN of which it is HOME");
        Start.sample().when("slot(0, 0): of another run, and a home", x -> x.slot(0, 0)).answers(6)
            .row(1, 1, 1, 62).holds();
        Start.sample().when("slot(0, 1): no home", x -> x.slot(0, 1)).answers(7).row(0, 1, 1, 63).holds();
        Bound.says(0, "CONTINUED: a PRINT lies in it that is not the first one of its RUN");
        Start.sample().when("slot(0, 2): the first one", x -> x.slot(0, 2)).answers(1).row(0, 0, 1, 1).holds();
        Start.sample().when("slot(1, 2): a like one", x -> x.slot(1, 2)).answers(1).row(0, 1, 1, 5).holds();
        Bound.says(0, "SHIFTED: a PRINT lies in it that is not in its HOME");
        Start.sample().when("slot(0, 3): in its home", x -> x.slot(0, 3)).answers(0).row(1, 0, 0, 24).holds();
        Start.sample().when("slot(0, 5): not in its home", x -> x.slot(0, 5)).answers(1).row(0, 0, 1, 33).holds();
        Bound.says(0, "(A SLOT without MARKS is empty.)");
        Start.sample().when("slot(0, 6)", x -> x.slot(0, 6)).stays(-2);
        // A print with remainder 0 has a mark.
        Start.of(6).file(0, 3, 0).when("slot(0, 0)", x -> x.slot(0, 0)).answers(0).row(1, 0, 0, 0).holds();
    }

    private static void bits() {
        Bound.says(0, "BITS: of SLOT i those from i times (P less Q and 3) on");
        // One print with remainder 0 in its home: OCCUPIED alone.
        for (int p = 6; p <= 14; p++) {
            for (int q = 3; q <= 6 && q < p; q++) {
                for (int i : new int[] {0, 1, (1 << q) / 2, (1 << q) - 1}) {
                    int at = i * (p - q + 3);
                    Start start = Start.of(p).file(0, q, i << (p - q));
                    start.when("Q " + q + ", slot " + i, x -> x.word(0, at / 64)).stays(1L << (at % 64));
                }
            }
        }
        Bound.says(0, "OCCUPIED, CONTINUED, SHIFTED (the lowest ones), then the REMAINDER (0 if it is empty)");
        // Slots 0 and 1 of eight bits: 1 and 8 times 21; 2 and 4 and 8 times 31; the last slot: 1 and 8 times 31.
        Start.of(8).file(0, 3, 21, 31, 255).when("word(0, 0)", x -> x.word(0, 0)).stays(0xf90000000000fea9L);
        Start.of(8).file(0, 3).when("word(0, 0) of none", x -> x.word(0, 0)).stays(0);
        Bound.says(0, "WORD k of a FILE: bits 64 k .. 64 k and 63");
        // Of 14 bits each: slot 4 from bit 56 on, eight of them in word 0, six in word 1.
        Start five = Start.of(14).file(0, 3, 4 << 11 | 2047);
        five.when("word(0, 0)", x -> x.word(0, 0)).stays(0xf900000000000000L);
        five.when("word(0, 1)", x -> x.word(0, 1)).stays(63);
        // Of 8 bits each: slot 7 ends word 0, slot 8 begins word 1.
        Start eight = Start.of(9).file(0, 4, 7 << 5 | 31, 8 << 5 | 31);
        eight.when("word(0, 0)", x -> x.word(0, 0)).stays(0xf900000000000000L);
        eight.when("word(0, 1)", x -> x.word(0, 1)).stays(0xf9);
    }

    private static void clustersBesideOneAnother() {
        Bound.says(0, "CLUSTER: SLOTS with PRINTS, one behind another (going round)");
        Start.sample().when("cluster(0, 2)", x -> x.cluster(0, 2)).answers(4).row(7, 2).holds();
        Start.sample().when("cluster(0, 3)", x -> x.cluster(0, 3)).answers(3).row(3, 2).holds();
        Bound.says(0, "of which the first one is not SHIFTED, the others are.");
        Start.of(6).file(0, 3, 0, 56).when("cluster(0, 0)", x -> x.cluster(0, 0)).answers(1).row(0, 1).holds();
        Start.of(6).file(0, 3, 0, 56).when("cluster(0, 7)", x -> x.cluster(0, 7)).answers(1).row(7, 1).holds();
        Start.of(6).file(0, 3, 0, 56, 57).when("cluster(0, 1)", x -> x.cluster(0, 1)).answers(3).row(7, 2).holds();
    }

    private static void loadAtItsBound() {
        Bound.says(0, "PUT IN: if 100 times (PRINTS and 1) is more than LOAD times SLOTS");
        // LOAD, Q, the most PRINTS that come without doubling: LOAD times SLOTS by 100, cut.
        int[][] bounds = {{50, 3, 4}, {62, 3, 4}, {63, 3, 5}, {74, 3, 5}, {75, 3, 6}, {76, 3, 6}, {87, 3, 6}, {88, 3, 7},
            {95, 3, 7}, {50, 4, 8}, {51, 4, 8}, {56, 4, 8}, {57, 4, 9}, {74, 4, 11}, {75, 4, 12}, {93, 4, 14},
            {94, 4, 15}, {95, 4, 15}, {50, 5, 16}, {53, 5, 16}, {54, 5, 17}, {75, 5, 24}, {93, 5, 29}, {94, 5, 30},
            {95, 5, 30}};
        for (int[] b : bounds) {
            int most = b[2];
            int slots = 1 << b[1];
            Start less = Start.of(12).load(b[0]).file(0, b[1], Start.upTo(most - 1));
            less.when("LOAD " + b[0] + ", print " + most, x -> x.puts(0, 4095)).answers(slots)
                .row(slots - 1, most).file(0, b[1], Start.with(Start.upTo(most - 1), 4095)).holds();
            Start more = Start.of(12).load(b[0]).file(0, b[1], Start.upTo(most));
            more.when("LOAD " + b[0] + ", print " + (most + 1), x -> x.puts(0, 4095)).answers(2 * slots)
                .row(2 * slots - 1, most + 1).file(0, b[1] + 1, Start.with(Start.upTo(most), 4095)).holds();
        }
    }

    private static void doubledByEachCall() {
        Bound.says(0, "the FILE is DOUBLED first; then the PRINT comes");
        Start five = Start.of(6).file(0, 3, 1, 2, 3, 4, 5);
        Start six = Start.of(6).file(0, 3, 1, 2, 3, 4, 5, 6).text("63");
        five.when("puts(0, 63)", x -> x.puts(0, 63)).answers(8).row(7, 6).file(0, 3, 1, 2, 3, 4, 5, 63).holds();
        six.when("puts(0, 63)", x -> x.puts(0, 63)).answers(16).row(15, 7).file(0, 4, 1, 2, 3, 4, 5, 6, 63).holds();
        six.when("keys(0)", x -> x.keys(0)).answers(1).row(0, 7).signs(0).file(0, 4, 1, 2, 3, 4, 5, 6, 63).holds();
        five.text("63").when("keys(0)", x -> x.keys(0)).answers(1).row(0, 6).signs(0)
            .file(0, 3, 1, 2, 3, 4, 5, 63).holds();
        six.when("would(0, 63)", x -> x.would(0, 63)).stays(-3);
        five.when("would(0, 63)", x -> x.would(0, 63)).answers(0).row(7).holds();
    }

    private static void notDoubledByTheGreatestQ() {
        Bound.says(0, "and Q is below 6 and below P less 1");
        int[] thirty = Start.upTo(30);
        Start.of(6).load(50).file(0, 5, thirty).when("P 6: puts(0, 63)", x -> x.puts(0, 63)).answers(32).row(31, 31)
            .file(0, 5, Start.with(thirty, 63)).holds();
        Start.of(7).load(50).file(0, 5, thirty).when("P 7: puts(0, 127)", x -> x.puts(0, 127)).answers(64).row(63, 31)
            .file(0, 6, Start.with(thirty, 127)).holds();
        int[] many = Start.upTo(62);
        for (int p = 7; p <= 14; p++) {
            int last = (1 << p) - 1;
            Start.of(p).load(50).file(0, 6, many).when("Q 6: puts of the last print", x -> x.puts(0, last)).answers(64)
                .row(63, 63).file(0, 6, Start.with(many, last)).holds();
        }
        int[] fifteen = Start.upTo(15);
        Start.of(6).load(95).file(0, 4, fifteen).when("P 6, Q 4: puts(0, 63)", x -> x.puts(0, 63)).answers(32)
            .row(31, 16).file(0, 5, Start.with(fifteen, 63)).holds();
    }

    private static void doubledOnce() {
        Bound.says(0, "DOUBLED: Q is 1 more");
        Start.of(10).load(50).file(0, 3, 1, 2, 3, 4, 5, 6, 7).when("puts(0, 8) far above LOAD", x -> x.puts(0, 8))
            .answers(16).row(7, 8).file(0, 4, 1, 2, 3, 4, 5, 6, 7, 8).holds();
        Start.of(10).load(50).file(0, 4, Start.upTo(15)).when("puts(0, 15) far above LOAD", x -> x.puts(0, 15))
            .answers(32).row(15, 16).file(0, 5, Start.upTo(16)).holds();
    }

    private static void doubledAndHalved() {
        Bound.says(0, "HALVED: Q is 1 less (PRINTS stay as they are)");
        int[] all = {0, 9, 9, 31, 32, 63};
        for (int q = 3; q < 5; q++) {
            int then = q + 1;
            Start.of(6).file(0, q, all).when("doubles(0) of Q " + q, x -> x.doubles(0)).answers(1 << then)
                .file(0, then, all).holds();
            Start.of(6).file(0, then, all).when("halves(0) of Q " + then, x -> x.halves(0)).answers(1 << q)
                .file(0, then - 1, all).holds();
        }
        // The bit that goes over: 9 is 1 and 1 of three bits, 2 and 1 of two, 4 and 1 of one.
        Start.of(6).file(0, 3, 9).lies(0, "0000 1001 0000 0000 0000 0000 0000 0000");
        Start.of(6).file(0, 4, 9, 11).lies(0, "0000 0000 1001 6003" + " 0000".repeat(12));
        Start.of(6).file(0, 5, 9, 11).lies(0, "0000 0000 0000 0000 1001 1001" + " 0000".repeat(26));
    }

    private static void rowToldLast() {
        Bound.says(0, "ROW: numbers told last by a call that says so");
        Start.sample().when("none is told behind it", x -> {
            x.best(1);
            x.twin(1);
            x.count(0, 0);
            return x.word(1, 0) == 0 ? 1 : 0;
        }).answers(0).row(5, 5, 5, -1).holds();
        Start.sample().when("a shorter one", x -> {
            x.best(1);
            return x.nth(1, 0);
        }).answers(5).row(1).holds();
        Start.sample().when("a longer one", x -> {
            x.nth(1, 0);
            return x.best(1);
        }).answers(3).row(5, 5, 5, -1).holds();
        Bound.says(0, "Questions change nothing.");
        Start.sample().when("all questions", EdgesOfTermsTest::askAll).answers(0).row(0, 0, 0).holds();
    }

    private static long askAll(QuotientFile x) {
        for (int file = 0; file < 2; file++) {
            x.print(file, 9);
            x.has(file, 9);
            x.slot(file, 1);
            x.word(file, 0);
            x.run(file, 1);
            x.cluster(file, 1);
            x.clusters(file);
            x.would(file, 9);
            x.looks(file);
            x.nth(file, 1);
            x.best(file);
            x.span(file, 0, 63);
            x.after(file, 0);
            x.gaps(file);
            x.full(file);
            x.count(file, 3);
        }
        x.twin(9);
        x.both(9);
        x.row(0);
        return x.common();
    }

    private static void noneAheadOfOthers() {
        Bound.says(0, "NONE comes ahead of other answers below 0");
        Start full = Start.of(6).file(0, 5, Start.upTo(31)).file(1, 3, 9);
        full.when("puts(0, 40): no room", x -> x.puts(0, 40)).stays(-5);
        full.when("puts(0, 100000): no key", x -> x.puts(0, 100000)).stays(-1);
        full.when("would(0, 40): no room", x -> x.would(0, 40)).stays(-5);
        full.when("would(0, 100000): no key", x -> x.would(0, 100000)).stays(-1);
        full.when("spills(40): no room", x -> x.spills(40)).stays(-5);
        full.when("spills(-1): no key", x -> x.spills(-1)).stays(-1);
        Start.sample().when("would(0, 9): doubled", x -> x.would(0, 9)).stays(-3);
        Start.sample().when("would(0, -1): no key", x -> x.would(0, -1)).stays(-1);
        Start.sample().when("takes(0, 9): not there", x -> x.takes(0, 9)).stays(-2);
        Start.sample().when("takes(2, 9): no file", x -> x.takes(2, 9)).stays(-1);
        Start.sample().when("takes(0, 100009): no key", x -> x.takes(0, 100009)).stays(-1);
        Start.sample().when("parts(63): file 1 is not empty", x -> x.parts(63)).stays(-3);
        Start.sample().when("parts(64): no print", x -> x.parts(64)).stays(-1);
        Start.of(6).when("parts(0): there are none", x -> x.parts(0)).stays(-2);
        Start.of(6).when("parts(-1): no print", x -> x.parts(-1)).stays(-1);
        Start.of(6).when("after(0, 0): none", x -> x.after(0, 0)).stays(-2);
        Start.of(6).when("after(0, -1)", x -> x.after(0, -1)).stays(-1);
        Start.of(6).when("slot(0, 7): empty", x -> x.slot(0, 7)).stays(-2);
        Start.of(6).when("slot(0, 8): no slot", x -> x.slot(0, 8)).stays(-1);
        Start.of(6).when("cluster(0, 0): empty", x -> x.cluster(0, 0)).stays(-2);
        Start.of(6).when("cluster(0, -1): no slot", x -> x.cluster(0, -1)).stays(-1);
        Start.of(6).when("run(0, 7): no run", x -> x.run(0, 7)).stays(-2);
        Start.of(6).when("run(0, 8): no quotient", x -> x.run(0, 8)).stays(-1);
        Start.sample().when("sets(0, 0, 0, 8): no bag", x -> x.sets(0, 0, 0, 8)).stays(-300);
        Start.sample().when("sets(0, 1, 0, 8): no word", x -> x.sets(0, 1, 0, 8)).stays(-1);
        Start.of(6).when("sets(0, 0, 0, 0): it is so", x -> x.sets(0, 0, 0, 0)).stays(-2);
        Start.of(6).when("sets(0, 1, 0, 0): no word", x -> x.sets(0, 1, 0, 0)).stays(-1);
        Start.sample().text("5,x").when("keys(0): a wrong sign", x -> x.keys(0)).empties(-3);
        Start.sample().text("5,x").when("keys(2): no file", x -> x.keys(2)).empties(-1);
        Start.sample().text("5,x").when("wrongs(0): a wrong sign", x -> x.wrongs(0)).empties(-3);
        Start.sample().text("5,x").when("wrongs(2): no file", x -> x.wrongs(2)).empties(-1);
        Start.sample().text("31x").when("lays(0): a wrong sign", x -> x.lays(0)).empties(-3);
        Start.sample().text("31x").when("lays(2): no file", x -> x.lays(2)).empties(-1);
        String noBag = "3" + "2000".repeat(8);
        Start.sample().text(noBag).when("lays(0): no bag", x -> x.lays(0)).empties(-300);
        Start.sample().text(noBag).when("lays(2): no file", x -> x.lays(2)).empties(-1);
        Bound.says(0, "the ROW stays with each answer below 0.");
        Start.sample().when("two answers below 0 behind a row", x -> {
            x.after(0, 0);
            x.slot(0, 6);
            x.parts(64);
            return x.spills(100000);
        }).answers(-1).row(1, 2).holds();
    }
}
