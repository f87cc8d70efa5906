/** Promises 15 to 24, sentence by sentence, on both sides of each boundary. */
public final class EdgesOfRunsTest {
    private static final int MIN = Integer.MIN_VALUE;
    private static final int MAX = Integer.MAX_VALUE;

    public static void main(String[] args) {
        runTold();
        runBounds();
        runOfAll();
        clusterTold();
        clusterBounds();
        clustersTold();
        clustersAsLong();
        clustersWithout();
        wouldShift();
        wouldBeDoubled();
        wouldHaveNoRoom();
        looksTold();
        looksWithout();
        nthTold();
        bestTold();
        bestThatCantBe();
        spanTold();
        spanBounds();
        afterTold();
        afterBounds();
        gapsTold();
        gapsGoingRound();
        gapsAsMany();
        Bound.finish();
    }

    // ---- 15

    private static void runTold() {
        Bound.says(15, "PRINTS of a QUOTIENT: how many; the ROW: the SLOT of the first one, their REMAINDERS in order");
        Start.sample().when("run(0, 7): over the end", x -> x.run(0, 7)).answers(3).row(7, 0, 6, 7).holds();
        Start.sample().when("run(0, 0): behind it", x -> x.run(0, 0)).answers(1).row(2, 1).holds();
        Start.sample().when("run(0, 3)", x -> x.run(0, 3)).answers(2).row(3, 0, 1).holds();
        Start.sample().when("run(0, 4): shifted", x -> x.run(0, 4)).answers(1).row(5, 1).holds();
        Start.sample().when("run(1, 1): like ones", x -> x.run(1, 1)).answers(2).row(1, 1, 1).holds();
        Bound.says(15, "-2: there is no RUN");
        Start.sample().when("run(0, 6): an empty slot", x -> x.run(0, 6)).stays(-2);
        Start.sample().when("run(0, 2): a slot with a print", x -> x.run(0, 2)).stays(-2);
        Start.sample().when("run(1, 15)", x -> x.run(1, 15)).stays(-2);
        Start.of(6).when("run(0, 0) of none", x -> x.run(0, 0)).stays(-2);
    }

    private static void runBounds() {
        Bound.says(15, "NONE: no such QUOTIENT");
        for (int q = 3; q <= 6; q++) {
            int slots = 1 << q;
            Start start = Start.of(14).file(0, q, 0, 16383).file(1, q == 3 ? 6 : 3, 7);
            start.when("run(0, 0)", x -> x.run(0, 0)).answers(1).row(0, 0).holds();
            start.when("run of the last quotient", x -> x.run(0, slots - 1)).answers(1)
                .row(slots - 1, (1 << (14 - q)) - 1).holds();
            for (int i : new int[] {-1, slots, slots + 1, MIN, MAX}) {
                start.when("run(0, " + i + ") of Q " + q, x -> x.run(0, i)).stays(-1);
            }
        }
    }

    private static void runOfAll() {
        Bound.says(15, "their REMAINDERS in order");
        long[] due = new long[64];
        for (int i = 0; i < 63; i++) {
            due[i + 1] = i;
        }
        Start.of(14).file(0, 6, Start.upTo(63)).when("63 of one quotient", x -> x.run(0, 0)).answers(63).row(due).holds();
        int[] last = Start.upTo(63);
        for (int i = 0; i < 63; i++) {
            last[i] += 63 * 256;
        }
        due[0] = 63;
        Start.of(14).file(0, 6, last).when("63 of the last quotient", x -> x.run(0, 63)).answers(63).row(due).holds();
    }

    // ---- 16

    private static void clusterTold() {
        Bound.says(16, "The CLUSTER that has a SLOT: how many SLOTS; the ROW: its first SLOT, how many RUNS lie in it");
        for (int i : new int[] {7, 0, 1, 2}) {
            Start.sample().when("cluster(0, " + i + ")", x -> x.cluster(0, i)).answers(4).row(7, 2).holds();
        }
        for (int i : new int[] {3, 4, 5}) {
            Start.sample().when("cluster(0, " + i + ")", x -> x.cluster(0, i)).answers(3).row(3, 2).holds();
        }
        Start.sample().when("cluster(1, 2)", x -> x.cluster(1, 2)).answers(2).row(1, 1).holds();
        Start.sample().when("cluster(1, 10)", x -> x.cluster(1, 10)).answers(1).row(10, 1).holds();
        for (int i : new int[] {7, 0, 3, 5}) {
            Start.of(6).file(0, 3, Start.times(7, 60)).when("cluster(0, " + i + ") of all but one", x -> x.cluster(0, i))
                .answers(7).row(7, 1).holds();
        }
        Start.of(6).file(0, 3, 8, 9, 16, 24, 32, 40, 48).when("six runs", x -> x.cluster(0, 7)).answers(7)
            .row(1, 6).holds();
        Bound.says(16, "-2: the SLOT is empty");
        Start.sample().when("cluster(0, 6)", x -> x.cluster(0, 6)).stays(-2);
        Start.sample().when("cluster(1, 0)", x -> x.cluster(1, 0)).stays(-2);
        Start.sample().when("cluster(1, 3)", x -> x.cluster(1, 3)).stays(-2);
        Start.of(6).when("cluster(0, 0) of none", x -> x.cluster(0, 0)).stays(-2);
    }

    private static void clusterBounds() {
        Bound.says(16, "NONE: no such SLOT");
        for (int q = 3; q <= 6; q++) {
            int slots = 1 << q;
            Start start = Start.of(14).file(0, q, 0, 16383).file(1, q == 3 ? 6 : 3, 7);
            start.when("cluster(0, 0)", x -> x.cluster(0, 0)).answers(1).row(0, 1).holds();
            start.when("cluster of the last slot", x -> x.cluster(0, slots - 1)).answers(1).row(slots - 1, 1).holds();
            for (int i : new int[] {-1, slots, slots + 1, MIN, MAX}) {
                start.when("cluster(0, " + i + ") of Q " + q, x -> x.cluster(0, i)).stays(-1);
            }
        }
    }

    // ---- 17

    private static void clustersTold() {
        Bound.says(17, "CLUSTERS of a FILE: how many; the ROW: the most SLOTS of one, its first SLOT");
        Start.sample().when("clusters(0)", x -> x.clusters(0)).answers(2).row(4, 7).holds();
        Start.sample().when("clusters(1)", x -> x.clusters(1)).answers(2).row(2, 1).holds();
        Start.of(6).file(0, 3, 63).when("one", x -> x.clusters(0)).answers(1).row(1, 7).holds();
        Start.of(6).file(0, 3, 0, 8, 16, 24, 32, 40, 48).when("seven", x -> x.clusters(0)).answers(7).row(1, 0).holds();
        Start.of(6).file(0, 3, Start.times(7, 60)).when("one of seven", x -> x.clusters(0)).answers(1).row(7, 7).holds();
        Start.of(14).file(0, 6, Start.times(63, 16383)).when("one of 63", x -> x.clusters(0)).answers(1)
            .row(63, 63).holds();
    }

    private static void clustersAsLong() {
        Bound.says(17, "(of as long ones the least; 0 and NONE without)");
        Start.of(6).file(0, 3, 24, 24, 56, 56).when("of 3 and 7", x -> x.clusters(0)).answers(2).row(2, 3).holds();
        Start.of(6).file(0, 3, 24, 24, 56, 56, 56).when("7 is longer", x -> x.clusters(0)).answers(2).row(3, 7).holds();
        Start.of(6).file(0, 3, 24, 24, 24, 56, 56).when("3 is longer", x -> x.clusters(0)).answers(2).row(3, 3).holds();
        Start.of(6).file(0, 3, 8, 32, 56).when("of 1, 4 and 7", x -> x.clusters(0)).answers(3).row(1, 1).holds();
        Start.of(6).file(0, 3, 8, 32, 32, 56, 56).when("of 4 and 7", x -> x.clusters(0)).answers(3).row(2, 4).holds();
    }

    private static void clustersWithout() {
        Bound.says(17, "0 and NONE without)");
        for (int q = 3; q <= 6; q++) {
            Start.of(10).file(0, q).file(1, 3, 9).when("none of Q " + q, x -> x.clusters(0)).answers(0).row(0, -1).holds();
        }
        Start.of(6).file(0, 3, 9).when("the last one taken out", x -> {
            x.takes(0, 9);
            return x.clusters(0);
        }).answers(0).row(0, -1).file(0, 3).holds();
    }

    // ---- 18

    private static void wouldShift() {
        Bound.says(18, "How many PRINTS would lie in another SLOT than now, were the PRINT of a KEY PUT IN: it");
        // As the sample, without 33: slots 5 and 6 are empty.
        int[][] asked = {{0, 3, 2}, {1, 2, 3}, {63, 3, 2}, {40, 0, 5}, {48, 0, 6}, {24, 1, 4}, {56, 5, 0}, {61, 5, 0},
            {16, 2, 3}, {8, 2, 3}, {32, 0, 5}, {55, 0, 6}, {88, 1, 4}, {31, 0, 5}, {64, 3, 2}};
        for (int[] a : asked) {
            Start.sample().file(0, 3, 1, 24, 25, 56, 62, 63).when("would(0, " + a[0] + ")", x -> x.would(0, a[0]))
                .answers(a[1]).row(a[2]).holds();
        }
        Start.of(6).when("would(0, 63) of none", x -> x.would(0, 63)).answers(0).row(7).holds();
        Start.of(6).load(95).file(0, 3, 0, 1, 2, 3, 4, 5).when("all are shifted", x -> x.would(0, 56)).answers(0)
            .row(7).holds();
        Start.of(6).load(95).file(0, 3, 1, 2, 3, 4, 5, 6).when("all of a run are shifted", x -> x.would(0, 0))
            .answers(6).row(0).holds();
        Start.of(6).load(95).file(0, 3, 1, 2, 3, 4, 56, 57).when("over the end", x -> x.would(0, 56)).answers(5)
            .row(0).holds();
        Bound.says(18, "the ROW: the SLOT in which it would lie (of several of it the last)");
        Start.of(6).file(0, 3, 9, 9, 10).when("would(0, 9)", x -> x.would(0, 9)).answers(1).row(3).holds();
        Start.of(6).file(0, 3, 63).when("would(0, 63)", x -> x.would(0, 63)).answers(0).row(0).holds();
        Bound.says(18, "NONE: no such KEY");
        Start.of(6).when("would(0, -1)", x -> x.would(0, -1)).stays(-1);
        Start.of(6).when("would(0, 100000)", x -> x.would(0, 100000)).stays(-1);
        Start.of(6).when("would(0, 99999)", x -> x.would(0, 99999)).answers(0).row(3).holds();
    }

    private static void wouldBeDoubled() {
        Bound.says(18, "-3: the FILE would be DOUBLED");
        int[][] bounds = {{50, 3, 4}, {62, 3, 4}, {63, 3, 5}, {75, 3, 6}, {87, 3, 6}, {88, 3, 7}, {95, 3, 7}, {50, 4, 8},
            {75, 4, 12}, {93, 4, 14}, {94, 4, 15}, {95, 4, 15}, {50, 5, 16}, {75, 5, 24}, {95, 5, 30}};
        for (int[] b : bounds) {
            Start less = Start.of(12).load(b[0]).file(0, b[1], Start.upTo(b[2] - 1));
            less.when("LOAD " + b[0] + ", " + b[2] + " with it", x -> x.would(0, 4095)).answers(0)
                .row((1 << b[1]) - 1).holds();
            Start more = Start.of(12).load(b[0]).file(0, b[1], Start.upTo(b[2]));
            more.when("LOAD " + b[0] + ", " + (b[2] + 1) + " with it", x -> x.would(0, 4095)).stays(-3);
        }
        // By the greatest Q it would not.
        Start.of(6).load(50).file(0, 5, Start.upTo(30)).when("P 6, Q 5", x -> x.would(0, 63)).answers(0).row(31).holds();
        Start.of(7).load(50).file(0, 5, Start.upTo(30)).when("P 7, Q 5", x -> x.would(0, 63)).stays(-3);
        Start.of(7).load(50).file(0, 6, Start.upTo(62)).when("P 7, Q 6", x -> x.would(0, 127)).answers(0).row(63).holds();
    }

    private static void wouldHaveNoRoom() {
        Bound.says(18, "-5: as puts()");
        for (int p = 6; p <= 14; p++) {
            int q = p == 6 ? 5 : 6;
            int most = (1 << q) - 1;
            int last = (1 << p) - 1;
            Start.of(p).file(0, q, Start.upTo(most)).when("P " + p + ": a full file", x -> x.would(0, last)).stays(-5);
            Start.of(p).file(0, q, Start.upTo(most - 1)).when("P " + p + ": room for one", x -> x.would(0, last))
                .answers(0).row(most).holds();
            // A full one that can be doubled.
            Start.of(p).load(95).file(0, q - 1, Start.upTo(most / 2)).when("P " + p + ": a full file, Q less",
                x -> x.would(0, last)).stays(-3);
        }
    }

    // ---- 19

    private static void looksTold() {
        Bound.says(19, "SLOTS that has() would look at for all PRINTS in a FILE (each as often as it is there), together");
        Start.sample().when("looks(0)", x -> x.looks(0)).answers(14).row(3, 62, 7).holds();
        Start.sample().when("looks(1)", x -> x.looks(1)).answers(5).row(2, 5, 2).holds();
        Start.of(6).file(0, 3, 9).when("one", x -> x.looks(0)).answers(1).row(1, 9, 1).holds();
        Start.of(6).file(0, 3, 9, 9, 9).when("three alike", x -> x.looks(0)).answers(9).row(3, 9, 1).holds();
        // 9 sees itself and 11; each 11 all four, and so does 12.
        Start.of(6).file(0, 3, 9, 11, 11, 12, 20).when("two alike", x -> x.looks(0)).answers(15).row(4, 11, 4).holds();
        Start.of(14).file(0, 6, Start.times(63, 7)).when("63 alike", x -> x.looks(0)).answers(3969).row(63, 7, 1).holds();
        Bound.says(19, "the ROW: the most for one, the least such PRINT");
        Start.of(6).file(0, 3, 0, 8, 63).when("one each", x -> x.looks(0)).answers(3).row(1, 0, 3).holds();
        Start.of(6).file(0, 3, 0, 1, 8, 9, 60).when("two of two", x -> x.looks(0)).answers(9).row(2, 0, 5).holds();
        Start.of(6).file(0, 3, 0, 56, 57, 58).when("of a run over the end", x -> x.looks(0)).answers(9)
            .row(3, 57, 4).holds();
    }

    private static void looksWithout() {
        Bound.says(19, "(0 and NONE without), how many PRINTS are unlike");
        for (int q = 3; q <= 6; q++) {
            Start.of(10).file(0, q).file(1, 3, 9).when("none of Q " + q, x -> x.looks(0)).answers(0).row(0, -1, 0).holds();
        }
        // Each 9 sees both and 10; 10 sees four; each 11 all six.
        Start.of(6).file(0, 3, 9, 9, 10, 11, 11, 11).when("six, three unlike", x -> x.looks(0)).answers(2 * 3 + 4 + 3 * 6)
            .row(6, 11, 3).holds();
    }

    // ---- 20

    private static void nthTold() {
        Bound.says(20, "PRINT number i of a FILE (rising; like ones one behind another): it; the ROW: its SLOT");
        int[] prints = {1, 24, 25, 33, 56, 62, 63};
        int[] slots = {2, 3, 4, 5, 7, 0, 1};
        for (int i = 0; i < 7; i++) {
            int n = i;
            Start.sample().when("nth(0, " + i + ")", x -> x.nth(0, n)).answers(prints[i]).row(slots[i]).holds();
        }
        Start.sample().when("nth(1, 0)", x -> x.nth(1, 0)).answers(5).row(1).holds();
        Start.sample().when("nth(1, 1): a like one", x -> x.nth(1, 1)).answers(5).row(2).holds();
        Start.sample().when("nth(1, 2): the last one", x -> x.nth(1, 2)).answers(40).row(10).holds();
        Bound.says(20, "NONE: none such");
        for (int i : new int[] {-1, 3, 4, 16, MIN, MAX}) {
            Start.sample().when("nth(1, " + i + ")", x -> x.nth(1, i)).stays(-1);
        }
        Start.of(6).when("nth(0, 0) of none", x -> x.nth(0, 0)).stays(-1);
        Start many = Start.of(14).file(0, 6, Start.upTo(63));
        many.when("nth(0, 62)", x -> x.nth(0, 62)).answers(62).row(62).holds();
        many.when("nth(0, 63)", x -> x.nth(0, 63)).stays(-1);
        many.when("nth(0, 64)", x -> x.nth(0, 64)).stays(-1);
    }

    // ---- 21

    private static void bestTold() {
        Bound.says(21, "looks() of a FILE by Q 3, 4, 5, 6, if it was that: the Q by which it is least (of equal ones the least)");
        Start.sample().when("best(0)", x -> x.best(0)).answers(4).row(14, 11, 11, -1).holds();
        Start.sample().when("best(1): all equal", x -> x.best(1)).answers(3).row(5, 5, 5, -1).holds();
        Start.of(6).when("best(0) of none", x -> x.best(0)).answers(3).row(0, 0, 0, -1).holds();
        Start.of(6).file(0, 5).when("best(0) of none by Q 5", x -> x.best(0)).answers(3).row(0, 0, 0, -1).holds();
        Start.of(10).file(0, 6).when("best(0) of none by Q 6", x -> x.best(0)).answers(3).row(0, 0, 0, 0).holds();
        Start.of(6).file(0, 3, 0, 4).when("4 and 5 are equal", x -> x.best(0)).answers(4).row(4, 2, 2, -1).holds();
        Start.of(6).file(0, 3, 0, 1, 2, 3).when("5 is least", x -> x.best(0)).answers(5).row(13, 13, 8, -1).holds();
        Start.of(7).file(0, 3, 0, 1, 2, 3).when("6 is least", x -> x.best(0)).answers(6).row(13, 13, 13, 8).holds();
    }

    private static void bestThatCantBe() {
        Bound.says(21, "the ROW: it for each of these four (NONE, if Q can't be that, or its PRINTS would be more than SLOTS less 1)");
        // n like ones are n times n looks by each Q that can have them.
        int[] sizes = {7, 8, 15, 16, 31};
        int[] leasts = {3, 4, 4, 5, 5};
        for (int i = 0; i < sizes.length; i++) {
            int n = sizes[i];
            long all = n * n;
            long[] due = {n <= 7 ? all : -1, n <= 15 ? all : -1, n <= 31 ? all : -1, all};
            long[] of6 = {due[0], due[1], due[2], -1};
            Start.of(7).file(0, 6, Start.times(n, 3)).when("P 7, " + n + " alike", x -> x.best(0)).answers(leasts[i])
                .row(due).holds();
            Start.of(14).file(0, 6, Start.times(n, 3)).when("P 14, " + n + " alike", x -> x.best(0)).answers(leasts[i])
                .row(due).holds();
            Start.of(6).file(0, 5, Start.times(n, 3)).when("P 6, " + n + " alike", x -> x.best(0)).answers(leasts[i])
                .row(of6).holds();
        }
        Start.of(14).file(0, 6, Start.times(32, 3)).when("32 alike", x -> x.best(0)).answers(6)
            .row(-1, -1, -1, 1024).holds();
        Start.of(14).file(0, 6, Start.times(63, 3)).when("63 alike", x -> x.best(0)).answers(6)
            .row(-1, -1, -1, 3969).holds();
    }

    // ---- 22

    private static void spanTold() {
        Bound.says(22, "PRINTS of a FILE from v to w: how many; the ROW: CLUSTERS in which they lie, SLOTS of these together");
        int[][] asked = {{0, 0, 0, 0, 0}, {0, 1, 1, 1, 4}, {1, 1, 1, 1, 4}, {2, 23, 0, 0, 0}, {1, 23, 1, 1, 4},
            {1, 24, 2, 2, 7}, {2, 24, 1, 1, 3}, {24, 24, 1, 1, 3}, {24, 33, 3, 1, 3}, {25, 32, 1, 1, 3}, {26, 32, 0, 0, 0},
            {26, 33, 1, 1, 3}, {33, 56, 2, 2, 7}, {34, 55, 0, 0, 0}, {57, 61, 0, 0, 0}, {57, 62, 1, 1, 4},
            {56, 63, 3, 1, 4}, {63, 63, 1, 1, 4}, {0, 63, 7, 2, 7}};
        for (int[] a : asked) {
            Start.sample().when("span(0, " + a[0] + ", " + a[1] + ")", x -> x.span(0, a[0], a[1])).answers(a[2])
                .row(a[3], a[4]).holds();
        }
        Start.sample().when("span(1, 5, 5): like ones", x -> x.span(1, 5, 5)).answers(2).row(1, 2).holds();
        Start.of(6).when("span(0, 0, 63) of none", x -> x.span(0, 0, 63)).answers(0).row(0, 0).holds();
        Start.of(6).file(0, 3, 0, 8, 16, 24, 32, 40, 48).when("seven clusters", x -> x.span(0, 0, 63)).answers(7)
            .row(7, 7).holds();
    }

    private static void spanBounds() {
        Bound.says(22, "NONE: v is below 0, w is less than v, or 2 to the power of P at least");
        int[][] refused = {{-1, 3}, {-1, -1}, {MIN, 3}, {MIN, MIN}, {4, 3}, {63, 0}, {1, 0}, {0, -1}, {0, 64}, {64, 64},
            {63, 64}, {64, 63}, {0, MAX}, {MAX, MAX}, {MAX, MIN}, {0, MIN}};
        for (int[] r : refused) {
            Start.sample().when("span(0, " + r[0] + ", " + r[1] + ")", x -> x.span(0, r[0], r[1])).stays(-1);
        }
        for (int p = 6; p <= 14; p++) {
            int over = 1 << p;
            Start start = Start.of(p).file(0, 3, 0, over - 1);
            start.when("P " + p + ": to the last", x -> x.span(0, 0, over - 1)).answers(2).row(2, 2).holds();
            start.when("P " + p + ": the last", x -> x.span(0, over - 1, over - 1)).answers(1).row(1, 1).holds();
            start.when("P " + p + ": behind the last", x -> x.span(0, 0, over)).stays(-1);
        }
    }

    // ---- 23

    private static void afterTold() {
        Bound.says(23, "The least PRINT of a FILE that is v or greater: it");
        int[][] asked = {{0, 1, 1, 2}, {1, 1, 1, 2}, {2, 24, 1, 3}, {24, 24, 1, 3}, {25, 25, 1, 4}, {26, 33, 1, 5},
            {33, 33, 1, 5}, {34, 56, 1, 7}, {57, 62, 1, 0}, {63, 63, 1, 1}};
        for (int[] a : asked) {
            Start.sample().when("after(0, " + a[0] + ")", x -> x.after(0, a[0])).answers(a[1]).row(a[2], a[3]).holds();
        }
        Bound.says(23, "the ROW: how often it is there, the SLOT of the first one");
        Start.sample().when("after(1, 0): two alike", x -> x.after(1, 0)).answers(5).row(2, 1).holds();
        Start.of(6).file(0, 3, 8, 9, 9, 9).when("three alike", x -> x.after(0, 9)).answers(9).row(3, 2).holds();
        Start.of(6).file(0, 3, 62, 63, 63).when("two alike over the end", x -> x.after(0, 63)).answers(63)
            .row(2, 0).holds();
    }

    private static void afterBounds() {
        Bound.says(23, "-2: none");
        for (int v : new int[] {64, 65, 1 << 14, MAX}) {
            Start.sample().when("after(0, " + v + ")", x -> x.after(0, v)).stays(-2);
        }
        Start.sample().when("after(1, 40)", x -> x.after(1, 40)).answers(40).row(1, 10).holds();
        Start.sample().when("after(1, 41)", x -> x.after(1, 41)).stays(-2);
        Start.sample().when("after(1, 63)", x -> x.after(1, 63)).stays(-2);
        Start.of(6).when("after(0, 0) of none", x -> x.after(0, 0)).stays(-2);
        Start.of(6).when("after(0, MAX) of none", x -> x.after(0, MAX)).stays(-2);
        Bound.says(23, "NONE: v is below 0");
        Start.sample().when("after(0, -1)", x -> x.after(0, -1)).stays(-1);
        Start.sample().when("after(0, MIN)", x -> x.after(0, MIN)).stays(-1);
        Start.of(6).file(0, 3, 0).when("after(0, 0)", x -> x.after(0, 0)).answers(0).row(1, 0).holds();
    }

    // ---- 24

    private static void gapsTold() {
        Bound.says(24, "SLOTS of a FILE that are empty: how many");
        Start.sample().when("gaps(0): all but one are full", x -> x.gaps(0)).answers(1).row(1, 6).holds();
        for (int q = 3; q <= 6; q++) {
            int slots = 1 << q;
            int most = slots - 1;
            Start.of(14).file(0, q).when("none of Q " + q, x -> x.gaps(0)).answers(slots).row(slots, 0).holds();
            Start.of(14).file(0, q, Start.times(most, 0)).when("all but the last one", x -> x.gaps(0)).answers(1)
                .row(1, most).holds();
            Start.of(14).file(0, q, Start.times(most, 1 << (14 - q))).when("all but slot 0", x -> x.gaps(0)).answers(1)
                .row(1, 0).holds();
            Start.of(14).file(0, q, 0).when("slot 0 alone", x -> x.gaps(0)).answers(most).row(most, 1).holds();
            Start.of(14).file(0, q, 16383).when("the last slot alone", x -> x.gaps(0)).answers(most).row(most, 0).holds();
        }
    }

    private static void gapsGoingRound() {
        Bound.says(24, "the ROW: the most of them one behind another (going round), the first of these");
        Start.sample().when("gaps(1): 3 .. 9 and 11 .. 0", x -> x.gaps(1)).answers(13).row(7, 3).holds();
        Start.of(6).file(0, 3, 16, 32).when("5 .. 1", x -> x.gaps(0)).answers(6).row(5, 5).holds();
        Start.of(6).file(0, 3, 24).when("4 .. 2", x -> x.gaps(0)).answers(7).row(7, 4).holds();
        Start.of(6).file(0, 3, 8, 16, 24, 32, 40, 48).when("7 and 0", x -> x.gaps(0)).answers(2).row(2, 7).holds();
        Start.of(6).file(0, 3, 8, 24, 48).when("4, 5 and 7, 0", x -> x.gaps(0)).answers(5).row(2, 4).holds();
    }

    private static void gapsAsMany() {
        Bound.says(24, "(of as many the least one)");
        Start.of(6).file(0, 3, 0, 32).when("of 1 and 5", x -> x.gaps(0)).answers(6).row(3, 1).holds();
        Start.of(6).file(0, 3, 8, 40).when("of 2 and 6", x -> x.gaps(0)).answers(6).row(3, 2).holds();
        Start.of(6).file(0, 3, 24, 56).when("of 0 and 4", x -> x.gaps(0)).answers(6).row(3, 0).holds();
        Start.of(6).file(0, 3, 16, 48).when("of 3 and 7", x -> x.gaps(0)).answers(6).row(3, 3).holds();
        Start.of(6).file(0, 3, 0, 16, 32, 48).when("of four", x -> x.gaps(0)).answers(4).row(1, 1).holds();
    }
}
