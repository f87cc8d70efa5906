/** Promises 15 to 24: run, cluster, clusters, would, looks, nth, best, span, after, gaps. */
public final class RunsTest {
    public static void main(String[] args) {
        runsTold();
        clusterOfSlot();
        clustersTold();
        wouldShift();
        wouldRefused();
        looksTold();
        nthTold();
        bestTold();
        spansTold();
        afterTold();
        gapsTold();
        Due.finish();
    }

    /** 56, 62, 63 in slots 7, 0, 1; 1 in 2; 24, 25 in 3, 4; 33 in 5. */
    private static QuotientFile sample() {
        QuotientFile x = Due.plain6();
        x.load(95);
        Due.putAll(x, 0, 63, 62, 56, 1, 24, 25, 33);
        // The other file is used last, so that nothing which is kept of it may answer for this one.
        Due.putAll(x, 1, 40, 40, 40, 40, 40, 40, 40);
        x.clears(1);
        x.gaps(1);
        return x;
    }

    private static void runsTold() {
        QuotientFile x = sample();
        Due.is("run(0, 7)", x.run(0, 7), 3);
        Due.row("run(0, 7)", x, 7, 0, 6, 7);
        Due.is("run(0, 0)", x.run(0, 0), 1);
        Due.row("run(0, 0)", x, 2, 1);
        Due.is("run(0, 3)", x.run(0, 3), 2);
        Due.row("run(0, 3)", x, 3, 0, 1);
        Due.is("run(0, 4)", x.run(0, 4), 1);
        Due.row("run(0, 4)", x, 5, 1);
        Due.is("run(0, 1)", x.run(0, 1), -2);
        Due.is("run(0, 8)", x.run(0, 8), -1);
        Due.is("run(0, -1)", x.run(0, -1), -1);
        Due.is("run(2, 0)", x.run(2, 0), -1);
        Due.is("run(1, 0)", x.run(1, 0), -2);
        Due.row("refused run", x, 5, 1);
        QuotientFile y = new QuotientFile();
        y.load(95);
        for (int i = 0; i < 63; i++) {
            y.puts(0, 0);
        }
        long[] due = new long[64];
        Due.is("run of 63", y.run(0, 0), 63);
        Due.row("run of 63", y, due);
        Due.is("run(0, 63)", y.run(0, 63), -2);
        Due.is("run(0, 64)", y.run(0, 64), -1);
    }

    private static void clusterOfSlot() {
        QuotientFile x = sample();
        int[] inFirst = {7, 0, 1, 2};
        for (int s : inFirst) {
            Due.is("cluster(0, " + s + ")", x.cluster(0, s), 4);
            Due.row("cluster(0, " + s + ")", x, 7, 2);
        }
        for (int s = 3; s < 6; s++) {
            Due.is("cluster(0, " + s + ")", x.cluster(0, s), 3);
            Due.row("cluster(0, " + s + ")", x, 3, 2);
        }
        Due.is("cluster(0, 6)", x.cluster(0, 6), -2);
        Due.is("cluster(0, 8)", x.cluster(0, 8), -1);
        Due.is("cluster(0, -1)", x.cluster(0, -1), -1);
        Due.is("cluster(2, 0)", x.cluster(2, 0), -1);
        Due.row("refused cluster", x, 3, 2);
    }

    private static void clustersTold() {
        QuotientFile x = sample();
        Due.is("clusters(0)", x.clusters(0), 2);
        Due.row("clusters(0)", x, 4, 7);
        Due.is("clusters(1)", x.clusters(1), 0);
        Due.row("clusters(1)", x, 0, -1);
        Due.is("clusters(2)", x.clusters(2), -1);
        Due.row("refused clusters", x, 0, -1);
        x.takes(0, 63);
        Due.is("clusters(0) as long", x.clusters(0), 2);
        Due.row("clusters(0) as long", x, 3, 3);
        x.takes(0, 33);
        Due.is("clusters(0) then", x.clusters(0), 2);
        Due.row("clusters(0) then", x, 3, 7);
        Due.putAll(x, 1, 0, 8, 16, 24);
        Due.is("clusters side by side", x.clusters(1), 4);
        Due.row("clusters side by side", x, 1, 0);
    }

    private static void wouldShift() {
        QuotientFile x = sample();
        x.takes(0, 33);
        int[][] asked = {{0, 3, 2}, {1, 2, 3}, {63, 3, 2}, {40, 0, 5}, {48, 0, 6}, {24, 1, 4}, {56, 5, 0},
            {61, 5, 0}, {16, 2, 3}, {32, 0, 5}, {55, 0, 6}, {64 + 24, 1, 4}};
        for (int[] a : asked) {
            Due.is("would(0, " + a[0] + ")", x.would(0, a[0]), a[1]);
            Due.row("would(0, " + a[0] + ")", x, a[2]);
        }
        Due.is("would changes nothing", x.count(0, 0), 6);
        Due.is("would(1, 20)", x.would(1, 20), 0);
        Due.row("would(1, 20)", x, 2);
    }

    private static void wouldRefused() {
        QuotientFile x = sample();
        x.nth(0, 6);
        Due.is("would be doubled", x.would(0, 40), -3);
        Due.is("would(0, 100000)", x.would(0, 100000), -1);
        Due.is("would(0, -1)", x.would(0, -1), -1);
        Due.is("would(2, 0)", x.would(2, 0), -1);
        Due.row("refused would", x, 1);
        for (int i = 7; i < 31; i++) {
            x.puts(0, 0);
        }
        Due.is("slots", x.count(0, 1), 32);
        Due.is("would without room", x.would(0, 40), -5);
        Due.is("would(0, 100000)", x.would(0, 100000), -1);
        x.takes(0, 0);
        Due.is("would with room again, by the greatest Q", x.would(0, 50), 1);
        Due.row("would with room again, by the greatest Q", x, 28);
    }

    private static void looksTold() {
        QuotientFile x = sample();
        Due.is("looks(0)", x.looks(0), 14);
        Due.row("looks(0)", x, 3, 62, 7);
        Due.is("looks(1)", x.looks(1), 0);
        Due.row("looks(1)", x, 0, -1, 0);
        Due.is("looks(2)", x.looks(2), -1);
        Due.row("refused looks", x, 0, -1, 0);
        x.puts(1, 9);
        Due.is("looks(1) of one print", x.looks(1), 1);
        Due.row("looks(1) of one print", x, 1, 9, 1);
        Due.putAll(x, 1, 11, 11, 12, 20);
        Due.is("looks(1) of like ones", x.looks(1), 2 + 4 + 4 + 4 + 1);
        Due.row("looks(1) of like ones", x, 4, 11, 4);
    }

    private static void nthTold() {
        QuotientFile x = sample();
        int[] prints = {1, 24, 25, 33, 56, 62, 63};
        int[] slots = {2, 3, 4, 5, 7, 0, 1};
        for (int i = 0; i < 7; i++) {
            Due.is("nth(0, " + i + ")", x.nth(0, i), prints[i]);
            Due.row("nth(0, " + i + ")", x, slots[i]);
        }
        Due.is("nth(0, 7)", x.nth(0, 7), -1);
        Due.is("nth(0, -1)", x.nth(0, -1), -1);
        Due.is("nth(2, 0)", x.nth(2, 0), -1);
        Due.is("nth(1, 0)", x.nth(1, 0), -1);
        Due.row("refused nth", x, 1);
        Due.putAll(x, 1, 5, 5, 4);
        Due.is("nth(1, 1)", x.nth(1, 1), 5);
        Due.row("nth(1, 1)", x, 1);
        Due.is("nth(1, 2)", x.nth(1, 2), 5);
        Due.row("nth(1, 2)", x, 2);
    }

    private static void bestTold() {
        QuotientFile x = sample();
        Due.is("best(0)", x.best(0), 4);
        Due.row("best(0)", x, 14, 11, 11, -1);
        Due.is("best(1)", x.best(1), 3);
        Due.row("best(1)", x, 0, 0, 0, -1);
        Due.is("best(2)", x.best(2), -1);
        Due.row("refused best", x, 0, 0, 0, -1);
        QuotientFile y = new QuotientFile();
        y.shape(7, (1 << 25) + 1);
        Due.putAll(y, 0, 0, 1, 2, 3, 4, 5, 6, 7);
        // 2 + 3 + 4 + .. (the last two alike) in one run of 8, then by fours, by fours, by twos.
        Due.is("best of P 7", y.best(0), 6);
        Due.row("best of P 7", y, -1, 2 + 3 + 4 + 5 + 6 + 7 + 8 + 8, 2 * (2 + 3 + 4 + 4), 4 * (2 + 2));
        for (int i = 8; i < 16; i++) {
            y.puts(0, 64 + i);
        }
        Due.is("best of 16", y.best(0), 6);
        Due.row("best of 16", y, -1, -1, 4 * 13, 8 * 4);
        Due.is("Q stays", y.count(0, 2), 5);
    }

    private static void spansTold() {
        QuotientFile x = sample();
        int[][] asked = {{24, 33, 3, 1, 3}, {1, 24, 2, 2, 7}, {26, 32, 0, 0, 0}, {0, 63, 7, 2, 7}, {0, 0, 0, 0, 0},
            {63, 63, 1, 1, 4}, {1, 1, 1, 1, 4}, {33, 56, 2, 2, 7}, {25, 25, 1, 1, 3}, {34, 55, 0, 0, 0}};
        for (int[] a : asked) {
            Due.is("span(0, " + a[0] + ", " + a[1] + ")", x.span(0, a[0], a[1]), a[2]);
            Due.row("span(0, " + a[0] + ", " + a[1] + ")", x, a[3], a[4]);
        }
        x.nth(0, 0);
        Due.is("span(0, -1, 3)", x.span(0, -1, 3), -1);
        Due.is("span(0, 4, 3)", x.span(0, 4, 3), -1);
        Due.is("span(0, 4, 64)", x.span(0, 4, 64), -1);
        Due.is("span(0, 64, 64)", x.span(0, 64, 64), -1);
        Due.is("span(0, 0, MAX)", x.span(0, 0, Integer.MAX_VALUE), -1);
        Due.is("span(2, 0, 1)", x.span(2, 0, 1), -1);
        Due.row("refused span", x, 2);
        Due.putAll(x, 1, 5, 5, 6);
        Due.is("span of like ones", x.span(1, 5, 5), 2);
        Due.row("span of like ones", x, 1, 3);
    }

    private static void afterTold() {
        QuotientFile x = sample();
        Due.is("after(0, 26)", x.after(0, 26), 33);
        Due.row("after(0, 26)", x, 1, 5);
        Due.is("after(0, 33)", x.after(0, 33), 33);
        Due.is("after(0, 0)", x.after(0, 0), 1);
        Due.row("after(0, 0)", x, 1, 2);
        Due.is("after(0, 63)", x.after(0, 63), 63);
        Due.row("after(0, 63)", x, 1, 1);
        Due.is("after(0, 64)", x.after(0, 64), -2);
        Due.is("after(0, MAX)", x.after(0, Integer.MAX_VALUE), -2);
        Due.is("after(0, -1)", x.after(0, -1), -1);
        Due.is("after(0, MIN)", x.after(0, Integer.MIN_VALUE), -1);
        Due.is("after(2, 0)", x.after(2, 0), -1);
        Due.is("after(1, 0)", x.after(1, 0), -2);
        Due.row("refused after", x, 1, 1);
        Due.putAll(x, 1, 9, 9, 9, 8);
        Due.is("after(1, 9)", x.after(1, 9), 9);
        Due.row("after(1, 9)", x, 3, 2);
    }

    private static void gapsTold() {
        QuotientFile x = sample();
        Due.is("gaps(0)", x.gaps(0), 1);
        Due.row("gaps(0)", x, 1, 6);
        Due.is("gaps(1)", x.gaps(1), 8);
        Due.row("gaps(1)", x, 8, 0);
        Due.is("gaps(2)", x.gaps(2), -1);
        Due.row("refused gaps", x, 8, 0);
        Due.putAll(x, 1, 16, 32);
        Due.is("gaps going round", x.gaps(1), 6);
        Due.row("gaps going round", x, 5, 5);
        x.puts(1, 56);
        Due.is("gaps as long", x.gaps(1), 5);
        Due.row("gaps as long", x, 2, 0);
        x.puts(1, 0);
        Due.is("gaps then", x.gaps(1), 4);
        Due.row("gaps then", x, 2, 5);
        x.doubles(1);
        Due.is("gaps of 16", x.gaps(1), 12);
        Due.row("gaps of 16", x, 5, 9);
    }
}
