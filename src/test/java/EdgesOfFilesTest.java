/** Promises 25 to 38, sentence by sentence, on both sides of each boundary. */
public final class EdgesOfFilesTest {
    private static final int MIN = Integer.MIN_VALUE;
    private static final int MAX = Integer.MAX_VALUE;

    public static void main(String[] args) {
        doublesTold();
        halvesTold();
        halvesWithoutRoom();
        mergesTold();
        mergesToTheLeastQ();
        mergesOfNone();
        mergesWithoutRoom();
        spillsTold();
        spillsWhenFull();
        spillsToTheLeastQ();
        spillsWithoutRoom();
        bothTold();
        partsTold();
        partsRefused();
        keepsBoth();
        keepsTheOthers();
        keepsAll();
        clearsTold();
        commonTold();
        fullTold();
        fullOfKeys();
        countsOfFiles();
        countsOfAll();
        signsTold();
        endTold();
        rowTold();
        Bound.finish();
    }

    // ---- 25

    private static void doublesTold() {
        Bound.says(25, "A FILE is DOUBLED: SLOTS then. -2: Q is 6, or P less 1");
        for (int p = 6; p <= 14; p++) {
            int greatest = p == 6 ? 5 : 6;
            int last = (1 << p) - 1;
            for (int q = 3; q <= greatest; q++) {
                Bound one = Start.of(p).file(0, q, 0, 0, last).file(1, 3, 9).when("P " + p + ", Q " + q, x -> x.doubles(0));
                if (q == greatest) {
                    one.stays(-2);
                } else {
                    one.answers(2 << q).file(0, q + 1, 0, 0, last).holds();
                }
            }
        }
        Start.of(6).file(1, 4, 9).when("doubles(1)", x -> x.doubles(1)).answers(32).file(1, 5, 9).holds();
        Start.of(6).file(1, 5, 9).when("doubles(1)", x -> x.doubles(1)).stays(-2);
        // It needs no cause: an empty file is doubled, too, and a full one.
        Start.of(6).when("doubles(0) of none", x -> x.doubles(0)).answers(16).file(0, 4).holds();
        Start.of(6).file(0, 3, Start.upTo(7)).when("doubles(0) of 7", x -> x.doubles(0)).answers(16)
            .file(0, 4, Start.upTo(7)).holds();
    }

    // ---- 26

    private static void halvesTold() {
        Bound.says(26, "A FILE is HALVED: SLOTS then. -2: Q is 3");
        for (int p = 6; p <= 14; p++) {
            int last = (1 << p) - 1;
            Start.of(p).file(0, 3, 0, last).when("P " + p + ", Q 3", x -> x.halves(0)).stays(-2);
            for (int q = 4; q <= 6 && q < p; q++) {
                Start.of(p).file(0, q, 0, last).file(1, 3, 9).when("P " + p + ", Q " + q, x -> x.halves(0))
                    .answers(1 << (q - 1)).file(0, q - 1, 0, last).holds();
            }
        }
        Start.of(6).when("halves(1) of none", x -> x.halves(1)).stays(-2);
        Start.of(6).file(0, 3, Start.upTo(7)).when("halves(0) of 7 by Q 3", x -> x.halves(0)).stays(-2);
        // LOAD has no part in it.
        Start.of(6).load(50).file(0, 4, Start.upTo(7)).when("LOAD 50, 7 of 8", x -> x.halves(0)).answers(8)
            .file(0, 3, Start.upTo(7)).holds();
    }

    private static void halvesWithoutRoom() {
        Bound.says(26, "-5: it would have more than SLOTS less 1");
        for (int q = 4; q <= 6; q++) {
            int then = q - 1;
            int most = (1 << then) - 1;
            Start.of(14).file(0, q, Start.upTo(most)).when(most + " of " + (most + 1), x -> x.halves(0)).answers(most + 1)
                .file(0, then, Start.upTo(most)).holds();
            Start.of(14).file(0, q, Start.upTo(most + 1)).when(most + 1 + " of as many", x -> x.halves(0)).stays(-5);
            Start.of(14).file(0, q, Start.times(2 * most + 1, 7)).when("a full file", x -> x.halves(0)).stays(-5);
        }
    }

    // ---- 27

    private static void mergesTold() {
        Bound.says(27, "All PRINTS of FILE 1 come to FILE 0, FILE 1 is empty (its Q stays)");
        Start.of(6).file(0, 3, 9, 40).file(1, 5, 9, 9, 63).when("merges()", x -> x.merges()).answers(3).row(8, 5)
            .file(0, 3, 9, 9, 9, 40, 63).file(1, 5).holds();
        Start.of(6).file(1, 4, 9).when("merges() into none", x -> x.merges()).answers(1).row(8, 1).file(0, 3, 9)
            .file(1, 4).holds();
        Start.of(6).file(0, 4, 9).file(1, 3, 9).when("merges() of one alike", x -> x.merges()).answers(1).row(16, 2)
            .file(0, 4, 9, 9).file(1, 3).holds();
        Bound.says(27, "how many PRINTS came; the ROW: SLOTS of FILE 0, PRINTS there.");
        // The order is that of the prints, from both ends.
        Start.of(14).file(0, 3, 5, 16383).file(1, 3, 0, 6, 16382).when("merges() between", x -> x.merges()).answers(3)
            .row(8, 5).file(0, 3, 0, 5, 6, 16382, 16383).file(1, 3).holds();
    }

    private static void mergesToTheLeastQ() {
        Bound.says(27, "Q of FILE 0 becomes the least one, not less than it is, by which 100 times PRINTS is LOAD times SLOTS");
        // LOAD, PRINTS together, Q due from 3 on by P 14.
        int[][] due = {{75, 6, 3}, {75, 7, 4}, {75, 12, 4}, {75, 13, 5}, {75, 24, 5}, {75, 25, 6}, {50, 4, 3}, {50, 5, 4},
            {50, 8, 4}, {50, 9, 5}, {50, 16, 5}, {50, 17, 6}, {95, 7, 3}, {95, 8, 4}, {95, 15, 4}, {95, 16, 5}, {95, 30, 5},
            {95, 31, 6}, {87, 6, 3}, {87, 7, 4}, {88, 7, 3}};
        for (int[] d : due) {
            for (int q = 3; q <= 6; q++) {
                int then = Math.max(q, d[2]);
                Start.of(14).load(d[0]).file(0, q, 5).file(1, 6, Start.times(d[1] - 1, 16383))
                    .when("LOAD " + d[0] + ", " + d[1] + " by Q " + q, x -> x.merges()).answers(d[1] - 1)
                    .row(1 << then, d[1]).file(0, then, Start.with(Start.times(d[1] - 1, 16383), 5)).file(1, 6).holds();
            }
        }
        // It is doubled more than once, if that is due.
        Start.of(14).load(50).file(0, 3, 5).file(1, 6, Start.upTo(40)).when("from 3 to 6", x -> x.merges()).answers(40)
            .row(64, 41).file(0, 6, Start.with(Start.upTo(40), 5)).file(1, 6).holds();
        Bound.says(27, "100 times PRINTS is LOAD times SLOTS at most, or, if there is none, the greatest that can be");
        Start.of(14).load(50).file(0, 3, 5).file(1, 6, Start.upTo(32)).when("33 of 64, LOAD 50", x -> x.merges())
            .answers(32).row(64, 33).file(0, 6, Start.with(Start.upTo(32), 5)).file(1, 6).holds();
        Start.of(6).load(50).file(0, 3, 5).file(1, 5, Start.upTo(15)).when("P 6: 16 of 32", x -> x.merges()).answers(15)
            .row(32, 16).file(0, 5, Start.with(Start.upTo(15), 5)).file(1, 5).holds();
        Start.of(6).load(50).file(0, 3, 5).file(1, 5, Start.upTo(16)).when("P 6: 17 of 32", x -> x.merges()).answers(16)
            .row(32, 17).file(0, 5, Start.with(Start.upTo(16), 5)).file(1, 5).holds();
    }

    private static void mergesOfNone() {
        Bound.says(27, "-2: FILE 1 is empty");
        Start.of(6).when("both are empty", x -> x.merges()).stays(-2);
        Start.of(6).file(0, 3, 9).file(1, 5).when("FILE 1 is empty", x -> x.merges()).stays(-2);
        Start.of(6).file(0, 5, Start.upTo(31)).when("FILE 0 is full, FILE 1 empty", x -> x.merges()).stays(-2);
        Start.of(6).file(0, 3, 9).file(1, 5, 8).when("twice", x -> {
            x.merges();
            return x.merges();
        }).answers(-2).row(8, 2).file(0, 3, 8, 9).file(1, 5).holds();
    }

    private static void mergesWithoutRoom() {
        Bound.says(27, "-5: they would be more than SLOTS less 1 by the greatest that can be");
        for (int p = 6; p <= 14; p++) {
            int q = p == 6 ? 5 : 6;
            int most = (1 << q) - 1;
            int last = (1 << p) - 1;
            int[] some = Start.times(most - 3, last);
            Start.of(p).file(0, 3, 1, 2, 3).file(1, q, some).when("P " + p + ": " + most, x -> x.merges())
                .answers(most - 3).row(most + 1, most).file(0, q, Start.with(some, 1, 2, 3)).file(1, q).holds();
            Start.of(p).file(0, 3, 1, 2, 3, 4).file(1, q, some).when("P " + p + ": one more", x -> x.merges()).stays(-5);
            Start.of(p).file(0, q, Start.times(most, 0)).file(1, 3, 1).when("P " + p + ": full", x -> x.merges()).stays(-5);
            Start.of(p).file(1, q, Start.times(most, 0)).when("P " + p + ": all to none", x -> x.merges()).answers(most)
                .row(most + 1, most).file(0, q, Start.times(most, 0)).file(1, q).holds();
        }
    }

    // ---- 28

    private static void spillsTold() {
        Bound.says(28, "A KEY is PUT IN FILE 0 so that it is never DOUBLED");
        Start.of(6).when("spills(9) into none", x -> x.spills(9)).answers(0).row(1, 0).file(0, 3, 9).holds();
        // LOAD, Q, the most PRINTS that come without doubling.
        int[][] bounds = {{50, 3, 4}, {75, 3, 6}, {87, 3, 6}, {88, 3, 7}, {95, 3, 7}, {50, 4, 8}, {75, 4, 12}, {95, 4, 15},
            {50, 5, 16}, {75, 5, 24}, {95, 5, 30}};
        for (int[] b : bounds) {
            int q = b[1];
            int most = b[2];
            Start.of(12).load(b[0]).file(0, q, Start.upTo(most - 1)).file(1, 3, 7).when("print " + most + " of Q " + q,
                x -> x.spills(4095)).answers(0).row(most, 1).file(0, q, Start.with(Start.upTo(most - 1), 4095)).holds();
            Bound.says(28, "if it would be, or puts() would answer -5, all its PRINTS come to FILE 1 first");
            Start.of(12).load(b[0]).file(0, q, Start.upTo(most)).file(1, 6, 7).when("print " + (most + 1) + " of Q " + q,
                x -> x.spills(4095)).answers(1).row(1, most + 1).file(0, q, 4095)
                .file(1, 6, Start.with(Start.upTo(most), 7)).holds();
        }
        Bound.says(28, "NONE: no such KEY");
        Start.sample().when("spills(-1)", x -> x.spills(-1)).stays(-1);
        Start.sample().when("spills(100000)", x -> x.spills(100000)).stays(-1);
    }

    private static void spillsWhenFull() {
        Bound.says(28, "1 if so, else 0; the ROW: PRINTS in FILE 0, in FILE 1 then.");
        Start.of(6).file(0, 3, 1, 2, 3, 4, 5).file(1, 3, 7, 7).when("five", x -> x.spills(6)).answers(0).row(6, 2)
            .file(0, 3, 1, 2, 3, 4, 5, 6).holds();
        Start.of(6).file(0, 3, 1, 2, 3, 4, 5, 6).file(1, 4, 7, 7).when("six", x -> x.spills(63)).answers(1).row(1, 8)
            .file(0, 3, 63).file(1, 4, 1, 2, 3, 4, 5, 6, 7, 7).holds();
        Bound.says(28, "if it would be, or puts() would answer -5, all its PRINTS come to FILE 1 first");
        Start.of(6).load(50).file(0, 5, Start.upTo(30)).when("P 6: 30 of 32", x -> x.spills(63)).answers(0).row(31, 0)
            .file(0, 5, Start.with(Start.upTo(30), 63)).holds();
        Start.of(6).load(50).file(0, 5, Start.upTo(31)).when("P 6: 31 of 32", x -> x.spills(63)).answers(1).row(1, 31)
            .file(0, 5, 63).file(1, 5, Start.upTo(31)).holds();
        Start.of(7).load(50).file(0, 6, Start.upTo(62)).when("P 7: 62 of 64", x -> x.spills(127)).answers(0).row(63, 0)
            .file(0, 6, Start.with(Start.upTo(62), 127)).holds();
        Start.of(7).load(50).file(0, 6, Start.upTo(63)).when("P 7: 63 of 64", x -> x.spills(127)).answers(1).row(1, 63)
            .file(0, 6, 127).file(1, 6, Start.upTo(63)).holds();
        // A like print goes with the others: the key that comes is alone.
        Start.of(6).file(0, 3, 9, 9, 9, 9, 9, 9).file(1, 3, 9).when("all alike", x -> x.spills(9)).answers(1).row(1, 7)
            .file(0, 3, 9).file(1, 4, Start.times(7, 9)).holds();
    }

    private static void spillsToTheLeastQ() {
        Bound.says(28, "(Q of that becomes as is told of merges(), the other way round; FILE 0 is empty, Q stays)");
        int[] six = {1, 2, 3, 4, 5, 6};
        int[] twelve = Start.upTo(12);
        Start.of(6).file(0, 3, six).when("6 to none", x -> x.spills(7)).answers(1).row(1, 6).file(0, 3, 7)
            .file(1, 3, six).holds();
        Start.of(6).file(0, 3, six).file(1, 3, 9).when("6 to 1", x -> x.spills(7)).answers(1).row(1, 7).file(0, 3, 7)
            .file(1, 4, Start.with(six, 9)).holds();
        Start.of(6).file(0, 3, six).file(1, 5, 9).when("not less than it is", x -> x.spills(7)).answers(1).row(1, 7)
            .file(0, 3, 7).file(1, 5, Start.with(six, 9)).holds();
        Start.of(14).file(0, 4, twelve).file(1, 3, 9).when("12 to 1", x -> x.spills(7)).answers(1).row(1, 13)
            .file(0, 4, 7).file(1, 5, Start.with(twelve, 9)).holds();
        Start.of(14).file(0, 4, twelve).file(1, 4, twelve).when("12 to 12", x -> x.spills(7)).answers(1).row(1, 24)
            .file(0, 4, 7).file(1, 5, Start.with(twelve, twelve)).holds();
        Start.of(14).file(0, 5, Start.upTo(24)).file(1, 6, Start.upTo(30)).when("54 of 64: none, so the greatest",
            x -> x.spills(7)).answers(1).row(1, 54).file(0, 5, 7)
            .file(1, 6, Start.with(Start.upTo(30), Start.upTo(24))).holds();
        Start.of(6).file(0, 4, twelve).file(1, 3, six).when("P 6: 18 of 32", x -> x.spills(7)).answers(1).row(1, 18)
            .file(0, 4, 7).file(1, 5, Start.with(twelve, six)).holds();
        Start.of(6).load(50).file(0, 4, Start.upTo(8)).file(1, 4, Start.upTo(15)).when("P 6: 23 of 32, LOAD 50",
            x -> x.spills(7)).answers(1).row(1, 23).file(0, 4, 7)
            .file(1, 5, Start.with(Start.upTo(8), Start.upTo(15))).holds();
    }

    private static void spillsWithoutRoom() {
        Bound.says(28, "-5: FILE 1 can't have them all (by the greatest Q)");
        int[] six = {1, 2, 3, 4, 5, 6};
        for (int p = 6; p <= 14; p++) {
            int q = p == 6 ? 5 : 6;
            int most = (1 << q) - 1;
            int[] some = Start.times(most - 6, 0);
            int[] more = Start.times(most - 5, 0);
            Start.of(p).file(0, 3, six).file(1, q, some).when("P " + p + ": " + most, x -> x.spills(7)).answers(1)
                .row(1, most).file(0, 3, 7).file(1, q, Start.with(some, six)).holds();
            Start.of(p).file(0, 3, six).file(1, q, more).when("P " + p + ": one more", x -> x.spills(7)).stays(-5);
            // With room in FILE 0, FILE 1 has no part in it.
            Start.of(p).file(0, 3, 1, 2, 3, 4, 5).file(1, q, Start.times(most, 0)).when("P " + p + ": room in FILE 0",
                x -> x.spills(7)).answers(0).row(6, most).file(0, 3, 1, 2, 3, 4, 5, 7).holds();
            Start.of(p).file(0, q, Start.upTo(most)).file(1, 3, 1).when("P " + p + ": full", x -> x.spills(7)).stays(-5);
        }
        Start.of(6).file(0, 3, six).file(1, 5, Start.times(26, 0)).when("no room, no key", x -> x.spills(100000)).stays(-1);
    }

    // ---- 29

    private static void bothTold() {
        Bound.says(29, "PRINTS like that of a KEY in both FILES: how many");
        int[][] asked = {{9, 3, 3, 0}, {10, 1, 3, 0}, {11, 1, 3, 3}, {12, 1, 3, 3}, {75, 1, 3, 3}, {73, 3, 3, 0}};
        for (int[] a : asked) {
            Start.of(6).file(0, 3, 9, 9, 10).file(1, 3, 9, 11, 12).when("both(" + a[0] + ")", x -> x.both(a[0]))
                .answers(a[1]).row(a[2], a[3]).holds();
        }
        Bound.says(29, "the ROW: of FILE 0 SLOTS that has() looks at, of FILE 1 (0, if there are some in FILE 0)");
        // In none: both are looked at, each by its own Q.
        Start.of(6).file(0, 3, 9, 9, 10).file(1, 3, 9, 11, 12).when("both(8)", x -> x.both(8)).answers(0).row(1, 1).holds();
        Start.of(6).file(0, 3, 9, 9, 10).file(1, 3, 9, 11, 12).when("both(13)", x -> x.both(13)).answers(0)
            .row(3, 3).holds();
        Start.of(6).file(0, 3, 9, 12).file(1, 4, 9, 12).when("both(11)", x -> x.both(11)).answers(0).row(2, 1).holds();
        Start.of(6).file(0, 3, 9).file(1, 3, 63).when("both(40): no runs", x -> x.both(40)).answers(0).row(0, 0).holds();
        Start.of(6).file(1, 3, 9, 9).when("FILE 0 is empty", x -> x.both(9)).answers(2).row(0, 2).holds();
        Start.of(6).file(0, 3, 9, 9).when("FILE 1 is empty", x -> x.both(9)).answers(2).row(2, 0).holds();
        Start.of(6).when("both are empty", x -> x.both(9)).answers(0).row(0, 0).holds();
        Bound.says(29, "NONE: no such KEY");
        Start.sample().when("both(-1)", x -> x.both(-1)).stays(-1);
        Start.sample().when("both(100000)", x -> x.both(100000)).stays(-1);
        Start.sample().when("both(99999)", x -> x.both(99999)).answers(0).row(2, 0).holds();
    }

    // ---- 30

    private static Start part() {
        return Start.of(6).file(0, 4, 1, 24, 25, 25, 33, 56).file(1, 5);
    }

    private static void partsTold() {
        Bound.says(30, "PRINTS of FILE 0 that are v or greater go to FILE 1 (its Q becomes that of FILE 0): how many");
        part().when("parts(25)", x -> x.parts(25)).answers(4).file(0, 4, 1, 24).file(1, 4, 25, 25, 33, 56).holds();
        part().when("parts(26)", x -> x.parts(26)).answers(2).file(0, 4, 1, 24, 25, 25).file(1, 4, 33, 56).holds();
        part().when("parts(24)", x -> x.parts(24)).answers(5).file(0, 4, 1).file(1, 4, 24, 25, 25, 33, 56).holds();
        part().when("parts(56)", x -> x.parts(56)).answers(1).file(0, 4, 1, 24, 25, 25, 33).file(1, 4, 56).holds();
        part().when("parts(0)", x -> x.parts(0)).answers(6).file(0, 4).file(1, 4, 1, 24, 25, 25, 33, 56).holds();
        part().when("parts(1)", x -> x.parts(1)).answers(6).file(0, 4).file(1, 4, 1, 24, 25, 25, 33, 56).holds();
        part().when("parts(2)", x -> x.parts(2)).answers(5).file(0, 4, 1).file(1, 4, 24, 25, 25, 33, 56).holds();
        Start.of(14).file(0, 6, Start.upTo(63)).when("63 of 64", x -> x.parts(0)).answers(63).file(0, 6)
            .file(1, 6, Start.upTo(63)).holds();
        Start.of(6).file(0, 3, 63).when("parts(63)", x -> x.parts(63)).answers(1).file(0, 3).file(1, 3, 63).holds();
    }

    private static void partsRefused() {
        Bound.says(30, "-2: there are none");
        part().when("parts(57)", x -> x.parts(57)).stays(-2);
        part().when("parts(63)", x -> x.parts(63)).stays(-2);
        Start.of(6).file(1, 5).when("parts(0) of none", x -> x.parts(0)).stays(-2);
        Bound.says(30, "-3: FILE 1 is not empty");
        part().file(1, 5, 7).when("parts(25) to one", x -> x.parts(25)).stays(-3);
        part().file(1, 5, 7).when("parts(0) to one", x -> x.parts(0)).stays(-3);
        part().file(1, 5, 7).when("parts(25) to one that goes", x -> {
            x.takes(1, 7);
            return x.parts(25);
        }).answers(4).row(0).file(0, 4, 1, 24).file(1, 4, 25, 25, 33, 56).holds();
        // If both are so, the one that stands first in the document is answered.
        part().file(1, 5, 7).when("none are there, and FILE 1 is not empty", x -> x.parts(57)).stays(-2);
        Bound.says(30, "NONE: v is below 0, or 2 to the power of P at least");
        for (int v : new int[] {-1, 64, 65, MIN, MAX}) {
            part().when("parts(" + v + ")", x -> x.parts(v)).stays(-1);
            part().file(1, 5, 7).when("parts(" + v + "), FILE 1 is not empty", x -> x.parts(v)).stays(-1);
            Start.of(6).when("parts(" + v + ") of none", x -> x.parts(v)).stays(-1);
        }
        for (int p = 6; p <= 14; p++) {
            int over = 1 << p;
            Start.of(p).file(0, 3, over - 1).when("P " + p + ": the last", x -> x.parts(over - 1)).answers(1).file(0, 3)
                .file(1, 3, over - 1).holds();
            Start.of(p).file(0, 3, over - 1).when("P " + p + ": behind the last", x -> x.parts(over)).stays(-1);
        }
    }

    // ---- 31

    private static Start keep() {
        return Start.of(6).file(0, 4, 1, 1, 1, 2, 3, 3).file(1, 3, 1, 1, 3, 3, 3, 9);
    }

    private static void keepsBoth() {
        Bound.says(31, "FILE 0 keeps just what is in FILE 1, too (both is true; each PRINT as often as in the one that has fewer of it)");
        keep().when("keeps(true)", x -> x.keeps(true)).answers(2).file(0, 4, 1, 1, 3, 3).holds();
        Start.of(6).file(0, 3, 1, 2).when("FILE 1 is empty", x -> x.keeps(true)).answers(2).file(0, 3).holds();
        Start.of(6).file(0, 3, 1, 2).file(1, 3, 3).when("no like ones", x -> x.keeps(true)).answers(2).file(0, 3).holds();
        Start.of(6).file(0, 3, 5, 5).file(1, 3, 5).when("two and one", x -> x.keeps(true)).answers(1).file(0, 3, 5).holds();
        Start.of(14).file(0, 6, Start.upTo(63)).file(1, 6, Start.times(63, 62)).when("63 and 63", x -> x.keeps(true))
            .answers(62).file(0, 6, 62).holds();
    }

    private static void keepsTheOthers() {
        Bound.says(31, "or just what is not (both is false; as often as it has more of it): how many PRINTS go");
        keep().when("keeps(false)", x -> x.keeps(false)).answers(4).file(0, 4, 1, 2).holds();
        Start.of(6).file(0, 3, 5, 5).file(1, 3, 5).when("two and one", x -> x.keeps(false)).answers(1).file(0, 3, 5).holds();
        Start.of(6).file(0, 3, 5, 5).file(1, 3, 5, 5).when("two and two", x -> x.keeps(false)).answers(2).file(0, 3).holds();
        Start.of(6).file(0, 3, 5, 5).file(1, 3, 5, 5, 5).when("two and three", x -> x.keeps(false)).answers(2)
            .file(0, 3).holds();
        Start.of(14).file(0, 6, Start.upTo(63)).file(1, 6, Start.times(63, 62)).when("63 and 63", x -> x.keeps(false))
            .answers(1).file(0, 6, Start.upTo(62)).holds();
    }

    private static void keepsAll() {
        Bound.says(31, "-2: none would.");
        Start.of(6).when("keeps(true) of none", x -> x.keeps(true)).stays(-2);
        Start.of(6).when("keeps(false) of none", x -> x.keeps(false)).stays(-2);
        Start.of(6).file(1, 3, 9).when("keeps(true) of none, FILE 1 has one", x -> x.keeps(true)).stays(-2);
        Start.of(6).file(1, 3, 9).when("keeps(false) of none, FILE 1 has one", x -> x.keeps(false)).stays(-2);
        Start.of(6).file(0, 3, 9, 9).file(1, 4, 9, 9).when("keeps(true) of like files", x -> x.keeps(true)).stays(-2);
        Start.of(6).file(0, 3, 9).file(1, 4, 9, 9).when("keeps(true) of a part", x -> x.keeps(true)).stays(-2);
        Start.of(6).file(0, 3, 9, 9).when("keeps(false), FILE 1 is empty", x -> x.keeps(false)).stays(-2);
        Start.of(6).file(0, 3, 9, 9).file(1, 3, 8, 10).when("keeps(false) of unlike files", x -> x.keeps(false)).stays(-2);
        Bound.says(31, "(FILE 1, Q stay.)");
        Start.of(6).file(0, 5, Start.upTo(31)).file(1, 4, 7).when("one of 31 stays", x -> x.keeps(true)).answers(30)
            .file(0, 5, 7).holds();
        Start.of(6).file(0, 5, Start.upTo(31)).file(1, 4, 7).when("one of 31 goes", x -> x.keeps(false)).answers(1)
            .file(0, 5, Start.with(Start.upTo(7), 8, 9, 10, 11, 12, 13, 14, 15, 16, 17, 18, 19, 20, 21, 22, 23, 24, 25, 26,
                27, 28, 29, 30)).holds();
    }

    // ---- 32

    private static void clearsTold() {
        Bound.says(32, "All PRINTS of a FILE go (Q becomes 3): how many there were");
        Start.of(6).file(1, 3, 9).when("clears(0) of none", x -> x.clears(0)).stays(0);
        Start.of(6).file(0, 5).when("clears(0) of none by Q 5", x -> x.clears(0)).answers(0).file(0, 3).holds();
        Start.sample().when("clears(0)", x -> x.clears(0)).answers(7).file(0, 3).holds();
        Start.sample().when("clears(1)", x -> x.clears(1)).answers(3).file(1, 3).holds();
        Start.of(14).file(0, 6, Start.upTo(63)).when("clears(0) of 63", x -> x.clears(0)).answers(63).file(0, 3).holds();
    }

    // ---- 33

    private static void commonTold() {
        Bound.says(33, "PRINTS that are in both FILES: how many (each as often as in the one that has fewer of it)");
        keep().when("common()", x -> x.common()).answers(4).row(2, 0, 0).holds();
        Start.of(6).file(0, 3, 5, 5).file(1, 3, 5).when("two and one", x -> x.common()).answers(1).row(1, 0, 1).holds();
        Start.of(6).file(0, 3, 5).file(1, 3, 5, 5).when("one and two", x -> x.common()).answers(1).row(1, 1, 0).holds();
        Start.of(6).file(0, 3, 5, 5).file(1, 4, 5, 5).when("two and two", x -> x.common()).answers(2).row(1, 1, 1).holds();
        Bound.says(33, "the ROW: unlike ones, 1 if all of FILE 0 (each as often) are in FILE 1, else 0, 1 if all of FILE 1 are in FILE 0, else 0");
        Start.of(6).when("both are empty", x -> x.common()).answers(0).row(0, 1, 1).holds();
        Start.of(6).file(0, 3, 5).when("FILE 1 is empty", x -> x.common()).answers(0).row(0, 0, 1).holds();
        Start.of(6).file(1, 3, 5).when("FILE 0 is empty", x -> x.common()).answers(0).row(0, 1, 0).holds();
        Start.of(6).file(0, 3, 5, 6).file(1, 3, 5, 6, 7).when("a part", x -> x.common()).answers(2).row(2, 1, 0).holds();
        Start.of(6).file(0, 3, 5, 6, 7).file(1, 3, 5, 7).when("a part of it", x -> x.common()).answers(2).row(2, 0, 1).holds();
        Start.of(6).file(0, 3, 5).file(1, 3, 0, 0).when("none of both", x -> x.common()).answers(0).row(0, 0, 0).holds();
        Start.of(6).file(0, 3, 0, 0).file(1, 3, 5).when("none of both", x -> x.common()).answers(0).row(0, 0, 0).holds();
        Start.of(6).file(0, 3, 5, 6).file(1, 3, 6, 7).when("neither", x -> x.common()).answers(1).row(1, 0, 0).holds();
        Start.of(14).file(0, 6, Start.upTo(63)).file(1, 6, Start.upTo(63)).when("63 and 63", x -> x.common()).answers(63)
            .row(63, 1, 1).holds();
    }

    // ---- 34

    private static void fullTold() {
        Bound.says(34, "How full a FILE is, PRINTS by SLOTS as a float, as its bits");
        Start.of(6).when("none", x -> x.full(0)).answers(0).row(0, 0).holds();
        for (int q = 3; q <= 6; q++) {
            int slots = 1 << q;
            for (int n : new int[] {1, 2, 3, slots / 2 - 1, slots / 2, slots / 2 + 1, slots - 2, slots - 1}) {
                // Keys 1 .. n have these prints by P 14.
                int[] prints = new int[n];
                for (int i = 0; i < n; i++) {
                    prints[i] = i + 1;
                }
                Start.of(14).file(0, q, prints).when(n + " of " + slots, x -> x.full(0))
                    .answers(Float.floatToIntBits((float) n / slots))
                    .row(Double.doubleToLongBits((double) n / 16384), n).holds();
            }
        }
        // One half, one, seven eighths: written out.
        Start.of(6).file(0, 3, 0, 1, 2, 3).when("a half", x -> x.full(0)).answers(0x3f000000)
            .row(0x3fb0000000000000L, 64).holds();
        Start.of(6).file(0, 3, Start.upTo(7)).when("seven eighths", x -> x.full(0)).answers(0x3f600000)
            .row(0x3fbc000000000000L, 112).holds();
        Bound.says(34, "the ROW: unlike PRINTS by 2 to the power of P as a double, as its bits");
        Start.of(6).file(0, 3, 5, 5, 5).when("three alike", x -> x.full(0)).answers(0x3ec00000)
            .row(0x3f90000000000000L, 16).holds();
        Start.of(14).file(0, 6, Start.times(63, 5)).when("63 alike", x -> x.full(0)).answers(0x3f7c0000)
            .row(0x3f10000000000000L, 1).holds();
        Start.of(6).file(0, 5, Start.upTo(31)).when("31 unlike of 64", x -> x.full(0))
            .answers(Float.floatToIntBits(31f / 32)).row(Double.doubleToLongBits(31.0 / 64), 31 * 16).holds();
    }

    private static void fullOfKeys() {
        Bound.says(34, "how many KEYS of 0 .. 999 have a PRINT that is in it");
        // -1 times MULT has the bits of 16382, but is no key.
        int[][] due = {{0, 1}, {999, 1}, {1000, 0}, {16382, 0}, {16383, 0}};
        for (int[] d : due) {
            Start.of(14).file(0, 3, d[0]).when("print " + d[0], x -> x.full(0)).answers(0x3e000000)
                .row(0x3f10000000000000L, d[1]).holds();
        }
        // By P 6 prints 0 .. 39 have sixteen such keys, 40 .. 63 fifteen.
        Start.of(6).file(0, 3, 39).when("P 6: print 39", x -> x.full(0)).answers(0x3e000000)
            .row(0x3f90000000000000L, 16).holds();
        Start.of(6).file(0, 3, 40).when("P 6: print 40", x -> x.full(0)).answers(0x3e000000)
            .row(0x3f90000000000000L, 15).holds();
    }

    // ---- 35

    private static void countsOfFiles() {
        Bound.says(35, "What 0: PRINTS, 1: SLOTS, 2: Q, 3: SLOTS that are OCCUPIED, 4: CONTINUED, 5: SHIFTED");
        long[][] due = {{7, 8, 3, 4, 3, 5}, {3, 16, 4, 2, 1, 1}};
        for (int file = 0; file < 2; file++) {
            for (int what = 0; what <= 5; what++) {
                int f = file;
                int w = what;
                Start.sample().when("count(" + f + ", " + w + ")", x -> x.count(f, w)).stays(due[f][w]);
            }
        }
        long[] none = {0, 8, 3, 0, 0, 0};
        long[] many = {63, 64, 6, 1, 62, 62};
        for (int what = 0; what <= 5; what++) {
            int w = what;
            Start.of(6).when("count(0, " + w + ") of none", x -> x.count(0, w)).stays(none[w]);
            Start.of(14).file(0, 6, Start.times(63, 16383)).when("count(0, " + w + ") of 63", x -> x.count(0, w))
                .stays(many[w]);
        }
        Bound.says(35, "(of FILE file; NONE: no such one)");
        for (int file : new int[] {-1, 2, MIN, MAX}) {
            for (int what = 0; what <= 5; what++) {
                int w = what;
                Start.sample().when("count(" + file + ", " + w + ")", x -> x.count(file, w)).stays(-1);
            }
        }
    }

    private static void countsOfAll() {
        Bound.says(35, "6: P, 7: MULT, 8: LOAD, 9: numbers of the ROW, 10: signs of THE TEXT (whatever file is)");
        long[] due = {6, (1 << 26) + 1, 95, 2, 3};
        for (int file : new int[] {-1, 0, 1, 2, MIN, MAX}) {
            for (int what = 6; what <= 10; what++) {
                int w = what;
                Start.sample().when("count(" + file + ", " + w + ")", x -> x.count(file, w)).stays(due[w - 6]);
            }
        }
        Start.sample().text("").when("no signs", x -> x.count(0, 10)).stays(0);
        Start.sample().text("1".repeat(80)).when("80 signs", x -> x.count(0, 10)).stays(80);
        QuotientFile fresh = new QuotientFile();
        Due.is("no row", fresh.count(0, 9), 0);
        Start.of(14).file(0, 6, Start.times(63, 0)).when("64 numbers of the row", x -> {
            x.run(0, 0);
            return x.count(0, 9);
        }).answers(64).row(new long[64]).holds();
        Bound.says(35, "NONE for another what");
        for (int file : new int[] {-1, 0, 1, 2}) {
            for (int what : new int[] {-1, 11, 12, MIN, MAX}) {
                Start.sample().when("count(" + file + ", " + what + ")", x -> x.count(file, what)).stays(-1);
            }
        }
    }

    // ---- 36

    private static void signsTold() {
        Bound.says(36, "Four signs come behind THE TEXT, of v the highest byte first: how many it has");
        Start.sample().text("").when("sign(0) of none", x -> x.sign(0)).answers(4).signs(4).holds();
        Start.sample().text("1").when("sign(-1) of one", x -> x.sign(-1)).answers(5).signs(5).holds();
        // 12,3 and 4: keys 12 and 34, with the highest byte first.
        Start.of(6).text("").when("the order", x -> {
            x.sign('1' << 24 | '2' << 16 | ',' << 8 | '3');
            x.sign('4' << 24);
            x.end(5);
            return x.keys(0);
        }).answers(2).row(0, 2).signs(0).file(0, 3, 12, 34).holds();
        Start.of(6).text("12,").when("behind the text", x -> {
            x.sign('3' << 24 | '4' << 16 | ',' << 8 | '5');
            return x.keys(0);
        }).answers(3).row(0, 3).signs(0).file(0, 3, 12, 34, 5).holds();
        // Each byte is a sign, those above 127, too.
        for (int at = 0; at < 4; at++) {
            int v = 0x31313131 ^ (0x31 ^ 0xb1) << (24 - 8 * at);
            int due = -1 - at;
            Start.of(6).text("").when("a byte above 127 at " + at, x -> {
                x.sign(v);
                return x.keys(0);
            }).answers(due).holds();
        }
        Bound.says(36, "Refused: there would be more than 80");
        for (int n : new int[] {72, 73, 74, 75, 76}) {
            Start.sample().text("1".repeat(n)).when("sign behind " + n, x -> x.sign(0)).answers(n + 4).signs(n + 4).holds();
        }
        for (int n : new int[] {77, 78, 79, 80}) {
            Start.sample().text("1".repeat(n)).when("sign behind " + n, x -> x.sign(0)).stays(-1);
        }
        // None of a refused one's signs comes.
        Start.of(10).text("1,".repeat(38) + "2").when("refused behind 77", x -> {
            x.sign(',' << 24 | '3' << 16 | ',' << 8 | '4');
            return x.keys(0);
        }).answers(39).row(0, 39).signs(0).file(0, 6, Start.with(Start.times(38, 1), 2)).holds();
        Start.of(10).text("1,".repeat(38)).when("behind 76", x -> {
            x.sign('2' << 24 | ',' << 16 | '4' << 8 | '5');
            return x.keys(0);
        }).answers(40).row(0, 40).signs(0).file(0, 6, Start.with(Start.times(38, 1), 2, 45)).holds();
    }

    // ---- 37

    private static void endTold() {
        Bound.says(37, "THE TEXT has its first n signs alone: true");
        for (int n = 0; n <= 3; n++) {
            int m = n;
            Start.sample().when("end(" + n + ") of 3", x -> x.end(m) ? 1 : 0).answers(1).signs(n).holds();
        }
        Start.sample().text("").when("end(0) of none", x -> x.end(0) ? 1 : 0).answers(1).holds();
        Start.sample().text("1".repeat(80)).when("end(80) of 80", x -> x.end(80) ? 1 : 0).answers(1).holds();
        Start.of(6).text("12,34").when("the first ones stay", x -> {
            x.end(4);
            return x.keys(0);
        }).answers(2).row(0, 2).signs(0).file(0, 3, 12, 3).holds();
        Start.of(6).text("12,34").when("what was cut does not come back", x -> {
            x.end(1);
            x.sign(',' << 24 | '5' << 16 | ',' << 8 | '6');
            return x.keys(0);
        }).answers(3).row(0, 3).signs(0).file(0, 3, 1, 5, 6).holds();
        Bound.says(37, "false if it has not so many, or n is below 0");
        for (int n : new int[] {4, 5, 80, 81, MAX, -1, -2, MIN}) {
            Start.sample().when("end(" + n + ") of 3", x -> x.end(n) ? 1 : 0).stays(0);
        }
        Start.sample().text("").when("end(1) of none", x -> x.end(1) ? 1 : 0).stays(0);
        Start.sample().text("").when("end(-1) of none", x -> x.end(-1) ? 1 : 0).stays(0);
        Start.sample().text("1".repeat(80)).when("end(81) of 80", x -> x.end(81) ? 1 : 0).stays(0);
    }

    // ---- 38

    private static void rowTold() {
        Bound.says(38, "Number i of the ROW.");
        Start.sample().when("row(0)", x -> x.row(0)).stays(7);
        Start.sample().when("row(1)", x -> x.row(1)).stays(6);
        Start.of(6).when("a number below 0", x -> {
            x.clusters(0);
            return x.row(1);
        }).answers(-1).row(0, -1).holds();
        Start.of(6).file(0, 3, 5).when("a number of 64 bits", x -> {
            x.full(0);
            return x.row(0);
        }).answers(0x3f90000000000000L).row(0x3f90000000000000L, 16).holds();
        Bound.says(38, "NoSuchElementException: none such");
        for (int i : new int[] {-1, 2, 3, 63, 64, MIN, MAX}) {
            Start.sample().when("row(" + i + ")", x -> x.row(i)).fails();
        }
        for (int i : new int[] {0, -1, 1, MAX, MIN}) {
            Due.noNumber("a new object", new QuotientFile(), i);
        }
        Start many = Start.of(14).file(0, 6, Start.upTo(63));
        long[] due = new long[64];
        for (int i = 0; i < 63; i++) {
            due[i + 1] = i;
        }
        many.when("row(63) of 64 numbers", x -> {
            x.run(0, 0);
            return x.row(63);
        }).answers(62).row(due).holds();
        many.when("row(1) behind a longer row", x -> {
            x.run(0, 0);
            x.nth(0, 5);
            return x.row(0);
        }).answers(5).row(5).holds();
    }
}
