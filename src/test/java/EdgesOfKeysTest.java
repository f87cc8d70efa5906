/** Promises 1 to 10, sentence by sentence, on both sides of each boundary. */
public final class EdgesOfKeysTest {
    private static final int MIN = Integer.MIN_VALUE;
    private static final int MAX = Integer.MAX_VALUE;

    public static void main(String[] args) {
        newObject();
        shapeOfP();
        shapeOfMult();
        shapeEmpties();
        loadBounds();
        printOfKeys();
        putsTold();
        putsLastOfLikeOnes();
        putsWithoutRoom();
        takesOne();
        takesNone();
        hasHowMany();
        hasLookedAt();
        twinLeast();
        twinNone();
        keysOfNoText();
        keysDigits();
        keysTakenOut();
        keysThatCantBe();
        keysWithoutRoom();
        keysThatDouble();
        keysSigns();
        keysEnds();
        keysOfManySigns();
        wrongsTold();
        wrongsWithout();
        wrongsOfLikeKeys();
        wrongsSigns();
        Bound.finish();
    }

    // ---- 1

    private static void newObject() {
        Bound.says(1, "Both FILES are empty.");
        for (int file = 0; file < 2; file++) {
            QuotientFile x = new QuotientFile();
            Due.is("prints of file " + file, x.count(file, 0), 0);
            Due.is("nth(" + file + ", 0)", x.nth(file, 0), -1);
            Due.is("gaps(" + file + ")", x.gaps(file), 8);
            Due.is("word(" + file + ", 0)", x.word(file, 0), 0);
            Due.is("word(" + file + ", 1)", x.word(file, 1), 0);
            Due.is("clears(" + file + ")", x.clears(file), 0);
        }
        QuotientFile x = new QuotientFile();
        x.puts(0, 1);
        x.puts(1, 1);
        x.load(50);
        x.shape(6, 1);
        x.sign(0);
        QuotientFile y = new QuotientFile();
        Due.is("prints of another object", y.count(0, 0) + y.count(1, 0), 0);
        Due.is("P of another object", y.count(0, 6), 10);
        Due.is("LOAD of another object", y.count(0, 8), 75);
        Due.is("signs of another object", y.count(0, 10), 0);
        Due.row("another object", y);
    }

    // ---- 2

    private static void shapeOfP() {
        Bound.says(2, "NONE: P out of bounds, MULT even");
        for (int p : new int[] {5, 15, 0, -1, 4, 16, 32, MIN, MAX}) {
            Start.sample().when("shape(" + p + ", 3)", x -> x.shape(p, 3)).stays(-1);
        }
        for (int p = 6; p <= 14; p++) {
            int good = p;
            Start.sample().when("shape(" + p + ", 3)", x -> x.shape(good, 3)).answers(6).shape(p, 3).holds();
            Start.of(p).file(0, 3, 9).when("shape(10, 3) of P " + p, x -> x.shape(10, 3)).answers(p).shape(10, 3).holds();
        }
    }

    private static void shapeOfMult() {
        Bound.says(2, "NONE: P out of bounds, MULT even");
        for (int mult : new int[] {0, 2, -2, MIN, MAX - 1, 1 << 20}) {
            Start.sample().when("shape(6, " + mult + ")", x -> x.shape(6, mult)).stays(-1);
            Start.sample().when("shape(5, " + mult + ")", x -> x.shape(5, mult)).stays(-1);
        }
        for (int mult : new int[] {1, 3, -1, MIN + 1, MAX, -1640531527}) {
            Start.sample().when("shape(6, " + mult + ")", x -> x.shape(6, mult)).answers(6).shape(6, mult).holds();
        }
    }

    private static void shapeEmpties() {
        Bound.says(2, "P and MULT become others: both FILES are empty, Q 3 (LOAD stays): what P was");
        Start many = Start.of(14).load(51).file(0, 6, Start.upTo(63)).file(1, 5, Start.upTo(31));
        many.when("shape(13, 7)", x -> x.shape(13, 7)).answers(14).shape(13, 7).holds();
        // As they are already: there is no answer of its own for that.
        many.when("shape as it is", x -> x.shape(14, (1 << 18) + 1)).answers(14).shape(14, (1 << 18) + 1).holds();
        many.when("puts by the new shape", x -> {
            x.shape(6, (1 << 26) + 1);
            return x.puts(0, 64 + 9);
        }).answers(8).shape(6, (1 << 26) + 1).file(0, 3, 9).row(1, 1).holds();
    }

    // ---- 3

    private static void loadBounds() {
        Bound.says(3, "LOAD becomes v: what it was");
        Start.sample().when("load(50)", x -> x.load(50)).answers(95).load(50).holds();
        Start.sample().when("load(94)", x -> x.load(94)).answers(95).load(94).holds();
        Start.of(6).when("load(95)", x -> x.load(95)).answers(75).load(95).holds();
        Start.of(6).when("load(74)", x -> x.load(74)).answers(75).load(74).holds();
        Bound.says(3, "-2: it is so");
        for (int v : new int[] {50, 75, 95}) {
            Start.of(6).load(v).file(0, 3, 1, 2, 3, 4, 5, 6, 7).when("load(" + v + ") as it is", x -> x.load(v)).stays(-2);
        }
        Bound.says(3, "NONE: another v");
        for (int v : new int[] {49, 96, 0, -1, -75, 100, MIN, MAX}) {
            Start.sample().when("load(" + v + ")", x -> x.load(v)).stays(-1);
        }
    }

    // ---- 4

    private static void printOfKeys() {
        Bound.says(4, "PRINT of a KEY; the ROW: its QUOTIENT, its REMAINDER in a FILE");
        Start.sample().when("print(0, 45)", x -> x.print(0, 45)).answers(45).row(5, 5).holds();
        Start.sample().when("print(1, 45)", x -> x.print(1, 45)).answers(45).row(11, 1).holds();
        Start.of(14).file(1, 6).when("print(1, 16383)", x -> x.print(1, 16383)).answers(16383).row(63, 255).holds();
        Start.of(14).file(1, 6).when("print(1, 16384)", x -> x.print(1, 16384)).answers(0).row(0, 0).holds();
        Bound.says(4, "NONE: no such KEY");
        Start.sample().when("print(0, 99999)", x -> x.print(0, 99999)).answers(31).row(3, 7).holds();
        Start.sample().when("print(0, 100000)", x -> x.print(0, 100000)).stays(-1);
        Start.sample().when("print(0, 0)", x -> x.print(0, 0)).answers(0).row(0, 0).holds();
        Start.sample().when("print(0, -1)", x -> x.print(0, -1)).stays(-1);
    }

    // ---- 5

    private static void putsTold() {
        Bound.says(5, "PRINT of a KEY is PUT IN: how many SLOTS there are then");
        Start.of(6).when("puts(0, 9) into none", x -> x.puts(0, 9)).answers(8).row(1, 1).file(0, 3, 9).holds();
        Start.of(6).file(1, 5).when("puts(1, 9) by Q 5", x -> x.puts(1, 9)).answers(32).row(4, 1).file(1, 5, 9).holds();
        // 7 of 8 are 87.5 by 100: by LOAD 88 the seventh comes, by 87 the file is doubled ahead of it.
        int[] six = {8, 9, 10, 11, 12, 13};
        Start.of(6).load(88).file(0, 3, six).when("LOAD 88: puts(0, 56)", x -> x.puts(0, 56)).answers(8).row(7, 7)
            .file(0, 3, Start.with(six, 56)).holds();
        Start.of(6).load(87).file(0, 3, six).when("LOAD 87: puts(0, 56)", x -> x.puts(0, 56)).answers(16).row(14, 7)
            .file(0, 4, Start.with(six, 56)).holds();
        Bound.says(5, "NONE: no such KEY");
        Start.sample().when("puts(1, 100000)", x -> x.puts(1, 100000)).stays(-1);
        Start.sample().when("puts(1, -1)", x -> x.puts(1, -1)).stays(-1);
    }

    private static void putsLastOfLikeOnes() {
        Bound.says(5, "the ROW: the SLOT in which it lies (of several of that PRINT the last one), PRINTS in the FILE");
        Start.of(6).file(0, 3, 9, 9, 10, 17).when("puts(0, 9)", x -> x.puts(0, 9)).answers(8).row(3, 5)
            .file(0, 3, 9, 9, 9, 10, 17).holds();
        Start.of(6).file(0, 3, 63).when("puts(0, 63) over the end", x -> x.puts(0, 63)).answers(8).row(0, 2)
            .file(0, 3, 63, 63).holds();
        Start.of(6).file(0, 3, 0, 63, 63).when("puts(0, 63) ahead of 0", x -> x.puts(0, 63)).answers(8).row(1, 4)
            .file(0, 3, 0, 63, 63, 63).holds();
        Start.of(6).file(0, 3, 0, 63, 63).when("puts(0, 0)", x -> x.puts(0, 0)).answers(8).row(2, 4)
            .file(0, 3, 0, 0, 63, 63).holds();
        Start.of(6).file(0, 3, 63, 63).when("puts(0, 56) ahead of 63", x -> x.puts(0, 56)).answers(8).row(7, 3)
            .file(0, 3, 56, 63, 63).holds();
        Start.of(6).file(0, 3, 0, 48, 56, 56).when("puts(0, 48)", x -> x.puts(0, 48)).answers(8).row(7, 5)
            .file(0, 3, 0, 48, 48, 56, 56).holds();
    }

    private static void putsWithoutRoom() {
        Bound.says(5, "-5: there are SLOTS less 1, and it is not DOUBLED");
        for (int p = 6; p <= 14; p++) {
            int q = p == 6 ? 5 : 6;
            int most = (1 << q) - 1;
            int last = (1 << p) - 1;
            for (int load : new int[] {50, 95}) {
                Start.of(p).load(load).file(0, q, Start.upTo(most)).when("P " + p + ": puts into a full file",
                    x -> x.puts(0, last)).stays(-5);
                Start.of(p).load(load).file(0, q, Start.upTo(most - 1)).when("P " + p + ": puts of the last one",
                    x -> x.puts(0, last)).answers(most + 1).row(most, most)
                    .file(0, q, Start.with(Start.upTo(most - 1), last)).holds();
            }
            // A full one that can be doubled has room.
            Start.of(p).load(95).file(0, q - 1, Start.times(most / 2, 0)).when("P " + p + ": puts into a full file",
                x -> x.puts(0, last)).answers(most + 1).row(most, most / 2 + 1)
                .file(0, q, Start.with(Start.times(most / 2, 0), last)).holds();
        }
        Start full = Start.of(6).file(0, 5, Start.upTo(31));
        full.when("puts(0, 5) of a print that is there", x -> x.puts(0, 5)).stays(-5);
        full.when("puts(1, 5) into the other", x -> x.puts(1, 5)).answers(8).row(0, 1).file(1, 3, 5).holds();
    }

    // ---- 6

    private static void takesOne() {
        Bound.says(6, "PRINT of a KEY goes (one of it): how many of it are left; the ROW: PRINTS in the FILE");
        Start.of(6).file(0, 3, 9, 9, 9, 10).when("takes(0, 9)", x -> x.takes(0, 9)).answers(2).row(3)
            .file(0, 3, 9, 9, 10).holds();
        Start.of(6).file(0, 3, 9, 9, 10).when("takes(0, 73)", x -> x.takes(0, 73)).answers(1).row(2)
            .file(0, 3, 9, 10).holds();
        Start.of(6).file(0, 3, 9, 10).when("takes(0, 9)", x -> x.takes(0, 9)).answers(0).row(1).file(0, 3, 10).holds();
        Start.of(6).file(0, 3, 10).when("takes(0, 10)", x -> x.takes(0, 10)).answers(0).row(0).file(0, 3).holds();
        Start.of(6).file(0, 3, 0, 56, 63).when("takes(0, 56): all go back", x -> x.takes(0, 56)).answers(0).row(2)
            .file(0, 3, 0, 63).holds();
        // A file is not halved by itself.
        Start.of(6).file(1, 5, 63).when("takes(1, 63)", x -> x.takes(1, 63)).answers(0).row(0).file(1, 5).holds();
        Start.of(6).file(0, 5, Start.upTo(31)).when("takes(0, 30) of a full file", x -> x.takes(0, 30)).answers(0)
            .row(30).file(0, 5, Start.upTo(30)).holds();
    }

    private static void takesNone() {
        Bound.says(6, "-2: it is not there");
        Start.of(6).when("takes(0, 9) of none", x -> x.takes(0, 9)).stays(-2);
        Start.of(6).file(0, 3, 9, 11).when("takes(0, 8)", x -> x.takes(0, 8)).stays(-2);
        Start.of(6).file(0, 3, 9, 11).when("takes(0, 10)", x -> x.takes(0, 10)).stays(-2);
        Start.of(6).file(0, 3, 9, 11).when("takes(0, 12)", x -> x.takes(0, 12)).stays(-2);
        Start.of(6).file(0, 3, 9, 11).when("takes(0, 17): another quotient", x -> x.takes(0, 17)).stays(-2);
        Start.of(6).file(0, 3, 9, 11).when("takes(1, 9): the other file", x -> x.takes(1, 9)).stays(-2);
        Start.of(6).file(0, 3, 9).when("takes(0, 9) twice", x -> {
            x.takes(0, 9);
            return x.takes(0, 9);
        }).answers(-2).row(0).file(0, 3).holds();
        Bound.says(6, "NONE: no such KEY");
        Start.of(6).file(0, 3, 31).when("takes(0, 99999)", x -> x.takes(0, 99999)).answers(0).row(0).file(0, 3).holds();
        Start.of(6).file(0, 3, 32).when("takes(0, 100000)", x -> x.takes(0, 100000)).stays(-1);
        Start.of(6).file(0, 3, 63).when("takes(0, -1)", x -> x.takes(0, -1)).stays(-1);
    }

    // ---- 7

    private static void hasHowMany() {
        Bound.says(7, "How many PRINTS there are like that of a KEY (0: it was never put in, or has been taken out)");
        Start.of(6).file(0, 3, 9).when("has(0, 10): never put in", x -> x.has(0, 10)).answers(0).row(1).holds();
        Start.of(6).file(0, 3, 9).when("has(0, 9): taken out", x -> {
            x.takes(0, 9);
            return x.has(0, 9);
        }).answers(0).row(0).file(0, 3).holds();
        Start.of(6).file(0, 3, 9, 9).when("has(0, 9): one taken out", x -> {
            x.takes(0, 9);
            return x.has(0, 9);
        }).answers(1).row(1).file(0, 3, 9).holds();
        Start.of(6).file(0, 5, Start.times(31, 9)).when("has(0, 9): a full file", x -> x.has(0, 9)).answers(31)
            .row(31).holds();
        Start.of(6).file(0, 3, 9).when("has(0, 73): never put in, but told alike", x -> x.has(0, 73)).answers(1)
            .row(1).holds();
        Bound.says(7, "NONE: no such KEY");
        Start.of(6).file(0, 3, 32, 63).when("has(0, 100000)", x -> x.has(0, 100000)).stays(-1);
        Start.of(6).file(0, 3, 32, 63).when("has(0, -1)", x -> x.has(0, -1)).stays(-1);
        Start.of(6).file(0, 3, 31).when("has(0, 99999)", x -> x.has(0, 99999)).answers(1).row(1).holds();
    }

    private static void hasLookedAt() {
        Bound.says(7, "the ROW: SLOTS that are looked at: of the RUN of its QUOTIENT those from the first on");
        Bound.says(7, "of its QUOTIENT those from the first on until a greater REMAINDER, that one, too");
        int[][] asked = {{8, 0, 1}, {9, 1, 2}, {10, 0, 2}, {11, 2, 4}, {12, 0, 4}, {13, 1, 4}, {14, 0, 4}, {15, 0, 4}};
        for (int[] a : asked) {
            Start.of(6).file(0, 3, 7, 9, 11, 11, 13, 17).when("has(0, " + a[0] + ")", x -> x.has(0, a[0]))
                .answers(a[1]).row(a[2]).holds();
        }
        int[][] round = {{55, 0, 0}, {56, 0, 1}, {57, 1, 2}, {60, 1, 3}, {61, 0, 3}, {62, 0, 3}, {63, 1, 3}};
        for (int[] a : round) {
            Start.of(6).file(0, 3, 0, 1, 57, 60, 63).when("has(0, " + a[0] + ") going round", x -> x.has(0, a[0]))
                .answers(a[1]).row(a[2]).holds();
        }
        Start.of(6).file(0, 3, 0, 1, 57, 60, 63).when("has(0, 0) behind it", x -> x.has(0, 0)).answers(1).row(2).holds();
        Bound.says(7, "(0 without a RUN)");
        Start.of(6).when("has(0, 9) of none", x -> x.has(0, 9)).answers(0).row(0).holds();
        Start.of(6).file(0, 3, 8, 15).when("has(0, 7)", x -> x.has(0, 7)).answers(0).row(0).holds();
        Start.of(6).file(0, 3, 8, 15).when("has(0, 16)", x -> x.has(0, 16)).answers(0).row(0).holds();
        // Slot 2 has a print, of another run.
        Start.of(6).file(0, 3, 8, 15).when("has(0, 23)", x -> x.has(0, 23)).answers(0).row(0).holds();
    }

    // ---- 8

    private static void twinLeast() {
        Bound.says(8, "The least KEY of 0 .. 9999 but this one that has the same PRINT: it");
        Start.of(6).when("twin(0)", x -> x.twin(0)).stays(64);
        Start.of(6).when("twin(64)", x -> x.twin(64)).stays(0);
        Start.of(6).when("twin(128)", x -> x.twin(128)).stays(0);
        Start.of(6).when("twin(63)", x -> x.twin(63)).stays(127);
        Start.of(14).when("P 14: twin(16384)", x -> x.twin(16384)).stays(0);
        Start.of(14).when("P 14: twin(26383)", x -> x.twin(26383)).stays(9999);
        Start.of(14).when("P 14: twin(26384)", x -> x.twin(26384)).stays(-2);
        // -1 times MULT has the bits of 16382 by P 14, but is no key.
        Start.of(14).when("P 14: twin(16382)", x -> x.twin(16382)).stays(-2);
        // By P 13, 9999 and 1807 are alike, and no others below 10000.
        Start.of(13).when("P 13: twin(1807)", x -> x.twin(1807)).stays(9999);
        Start.of(13).when("P 13: twin(1808)", x -> x.twin(1808)).stays(-2);
        Start.of(13).when("P 13: twin(9999)", x -> x.twin(9999)).stays(1807);
        Start.of(13).when("P 13: twin(10000)", x -> x.twin(10000)).stays(1808);
    }

    private static void twinNone() {
        Bound.says(8, "-2: none");
        Start.of(14).when("P 14: twin(0)", x -> x.twin(0)).stays(-2);
        Start.of(14).when("P 14: twin(9999)", x -> x.twin(9999)).stays(-2);
        Start.of(14).when("P 14: twin(10000)", x -> x.twin(10000)).stays(-2);
        Bound.says(8, "NONE: no such KEY");
        Start.of(14).when("twin(-1)", x -> x.twin(-1)).stays(-1);
        Start.of(14).when("twin(100000)", x -> x.twin(100000)).stays(-1);
        // 99999 is 6 times 16384 and 1695.
        Start.of(14).when("P 14: twin(99999)", x -> x.twin(99999)).stays(1695);
    }

    // ---- 9

    private static Start nine(String text) {
        return Start.of(6).file(0, 3, 9).text(text);
    }

    private static void keysOfNoText() {
        Bound.says(9, "THE TEXT tells KEYS for a FILE, with commas between (an empty one: none)");
        nine("").when("keys(0) of no text", x -> x.keys(0)).answers(0).row(0, 1).holds();
        nine("").when("keys(1) of no text", x -> x.keys(1)).answers(0).row(0, 0).holds();
        nine("5").when("keys(0) of 5", x -> x.keys(0)).answers(1).row(0, 2).signs(0).file(0, 3, 5, 9).holds();
        nine("5,6").when("keys(0) of 5,6", x -> x.keys(0)).answers(2).row(0, 3).signs(0).file(0, 3, 5, 6, 9).holds();
        nine("5,5").when("keys(1) of 5,5", x -> x.keys(1)).answers(2).row(0, 2).signs(0).file(1, 3, 5, 5).holds();
    }

    private static void keysDigits() {
        Bound.says(9, "one to five digits");
        String[] texts = {"0", "7", "07", "007", "0007", "00007", "00000", "64", "99999", "12345"};
        int[] prints = {0, 7, 7, 7, 7, 7, 0, 0, 31, 57};
        for (int i = 0; i < texts.length; i++) {
            nine(texts[i]).when("keys(1) of " + texts[i], x -> x.keys(1)).answers(1).row(0, 1).signs(0)
                .file(1, 3, prints[i]).holds();
        }
        Bound.says(9, "-1 - p: the sign at p can't stand there (a sixth digit");
        nine("000007").when("keys(1) of 000007", x -> x.keys(1)).empties(-6);
        nine("123456").when("keys(1) of 123456", x -> x.keys(1)).empties(-6);
        nine("1234567").when("keys(1) of 1234567", x -> x.keys(1)).empties(-6);
        nine("~123456").when("keys(1) of ~123456", x -> x.keys(1)).empties(-7);
        nine("12345,000000").when("keys(1) of 12345,000000", x -> x.keys(1)).empties(-12);
        nine("12345,00000").when("keys(1) of 12345,00000", x -> x.keys(1)).answers(2).row(0, 2).signs(0)
            .file(1, 3, 57, 0).holds();
    }

    private static void keysTakenOut() {
        Bound.says(9, "~ ahead of it: it is taken out, else PUT IN");
        nine("~9").when("keys(0) of ~9", x -> x.keys(0)).answers(1).row(0, 0).signs(0).file(0, 3).holds();
        nine("~00073").when("keys(0) of ~00073", x -> x.keys(0)).answers(1).row(0, 0).signs(0).file(0, 3).holds();
        nine("5,~9").when("keys(0) twice, other texts", x -> {
            x.keys(0);
            Due.text(x, "6");
            return x.keys(0);
        }).answers(1).row(0, 2).signs(0).file(0, 3, 5, 6).holds();
        Bound.says(9, "they are done one by one");
        nine("5,~5").when("keys(0) of 5,~5", x -> x.keys(0)).answers(2).row(0, 1).signs(0).holds();
        nine("~9,9").when("keys(0) of ~9,9", x -> x.keys(0)).answers(2).row(0, 1).signs(0).holds();
        nine("~5,5").when("keys(0) of ~5,5", x -> x.keys(0)).answers(0).row(1, 1).signs(0).holds();
        nine("9,~9,~9").when("keys(0) of 9,~9,~9", x -> x.keys(0)).answers(3).row(0, 0).signs(0).file(0, 3).holds();
    }

    private static void keysThatCantBe() {
        Bound.says(9, "till one can't be: how many were done; the ROW: 1 if one could not be, else 0, PRINTS then");
        nine("~8").when("keys(0) of ~8", x -> x.keys(0)).answers(0).row(1, 1).signs(0).holds();
        nine("~9").when("keys(1) of ~9", x -> x.keys(1)).answers(0).row(1, 0).signs(0).holds();
        nine("5,~8,6").when("keys(0) of 5,~8,6", x -> x.keys(0)).answers(1).row(1, 2).signs(0).file(0, 3, 5, 9).holds();
        nine("~9,~9").when("keys(0) of ~9,~9", x -> x.keys(0)).answers(1).row(1, 0).signs(0).file(0, 3).holds();
        nine("5,6,~7").when("keys(0), the last one", x -> x.keys(0)).answers(2).row(1, 3).signs(0)
            .file(0, 3, 5, 6, 9).holds();
    }

    private static void keysWithoutRoom() {
        Bound.says(9, "till one can't be: how many were done; the ROW: 1 if one could not be, else 0, PRINTS then");
        int[] thirty = Start.upTo(30);
        int[] full = Start.upTo(31);
        Start.of(6).file(0, 5, thirty).text("40,41,~0").when("40,41,~0 into 30", x -> x.keys(0)).answers(1).row(1, 31)
            .signs(0).file(0, 5, Start.with(thirty, 40)).holds();
        Start.of(6).file(0, 5, thirty).text("40").when("40 into 30", x -> x.keys(0)).answers(1).row(0, 31)
            .signs(0).file(0, 5, Start.with(thirty, 40)).holds();
        Start.of(6).file(0, 5, full).text("40").when("40 into 31", x -> x.keys(0)).answers(0).row(1, 31).signs(0).holds();
        Start.of(6).file(0, 5, full).text("~30,40").when("~30,40 into 31", x -> x.keys(0)).answers(2).row(0, 31)
            .signs(0).file(0, 5, Start.with(thirty, 40)).holds();
    }

    private static void keysThatDouble() {
        Bound.says(9, "it is taken out, else PUT IN");
        int[] six = Start.upTo(6);
        Start.of(6).file(0, 3, Start.upTo(5)).text("40").when("40 into 5", x -> x.keys(0)).answers(1).row(0, 6)
            .signs(0).file(0, 3, Start.with(Start.upTo(5), 40)).holds();
        Start.of(6).file(0, 3, six).text("40").when("40 into 6", x -> x.keys(0)).answers(1).row(0, 7).signs(0)
            .file(0, 4, Start.with(six, 40)).holds();
        Start.of(6).file(0, 3, six).text("40,~40,~0").when("it stays doubled", x -> x.keys(0)).answers(3).row(0, 5)
            .signs(0).file(0, 4, 1, 2, 3, 4, 5).holds();
        Start.of(6).file(0, 3, six).text("~0,40").when("~0,40 into 6", x -> x.keys(0)).answers(2).row(0, 6).signs(0)
            .file(0, 3, 1, 2, 3, 4, 5, 40).holds();
    }

    private static void keysSigns() {
        Bound.says(9, "-1 - p: the sign at p can't stand there");
        // Beside the digits, the comma and ~ by their numbers, and the ends of a byte.
        int[] others = {0, ' ', '+', '-', '.', '/', ':', ';', 'a', 'A', '_', '}', 127, 128, 172, 177, 185, 254, 255};
        for (int other : others) {
            String sign = String.valueOf((char) other);
            nine(sign).when("keys(0), sign " + other + " at 0", x -> x.keys(0)).empties(-1);
            nine("5" + sign).when("keys(0), sign " + other + " at 1", x -> x.keys(0)).empties(-2);
            nine("5," + sign + "6").when("keys(0), sign " + other + " at 2", x -> x.keys(0)).empties(-3);
            nine("5,~" + sign).when("keys(0), sign " + other + " at 3", x -> x.keys(0)).empties(-4);
            nine("5,~9," + sign).when("keys(0), sign " + other + " at 5", x -> x.keys(0)).empties(-6);
            nine("12345" + sign).when("keys(0), sign " + other + " at 5", x -> x.keys(0)).empties(-6);
        }
        String[] texts = {",", ",5", "5,,6", "~,5", "~~9", "9~", "5,~~9", "5~,6", "12345~", "5,~,"};
        int[] places = {0, 0, 2, 1, 1, 1, 3, 1, 5, 3};
        for (int i = 0; i < texts.length; i++) {
            nine(texts[i]).when("keys(0) of " + texts[i], x -> x.keys(0)).empties(-1 - places[i]);
        }
        Bound.says(9, "nothing is done then");
        nine("5,6,~9,7x").when("keys(0) of 5,6,~9,7x", x -> x.keys(0)).empties(-9);
        // The first fault is told, and a fault comes ahead of a key that can't be.
        nine("~8,x,,").when("keys(0) of ~8,x,,", x -> x.keys(0)).empties(-4);
    }

    private static void keysEnds() {
        Bound.says(9, "its end, if it ends too early");
        String[] texts = {"~", "5,", "5,~", "12345,", "~9,", "5,6,~"};
        for (String text : texts) {
            nine(text).when("keys(0) of " + text, x -> x.keys(0)).empties(-1 - text.length());
        }
        nine("5,6").when("keys(0) of 5,6 cut to 5,", x -> {
            x.end(2);
            return x.keys(0);
        }).empties(-3);
        nine("5,6").when("keys(0) of 5,6 cut to 5", x -> {
            x.end(1);
            return x.keys(0);
        }).answers(1).row(0, 2).signs(0).file(0, 3, 5, 9).holds();
    }

    private static void keysOfManySigns() {
        Bound.says(9, "its end, if it ends too early");
        Start.of(10).text("1,".repeat(40)).when("80 signs, the last a comma", x -> x.keys(0)).empties(-81);
        Start.of(10).text("1,".repeat(39) + "1~").when("80 signs, the last ~", x -> x.keys(0)).empties(-80);
        Start.of(10).text("1,".repeat(39) + "12").when("80 signs, 40 keys", x -> x.keys(0)).answers(40).row(0, 40)
            .signs(0).file(0, 6, Start.with(Start.times(39, 1), 12)).holds();
        Start.of(10).text("1,".repeat(39) + "1").when("79 signs, 40 keys", x -> x.keys(0)).answers(40).row(0, 40)
            .signs(0).file(0, 6, Start.times(40, 1)).holds();
    }

    // ---- 10

    private static Start few(String text) {
        return Start.of(14).file(0, 3, 0, 5, 999, 1000, 1001).text(text);
    }

    private static void wrongsTold() {
        Bound.says(10, "how many KEYS of 0 .. 999 that are not among them has() would tell to be in a FILE");
        String[] texts = {"", "0", "5", "999", "0,5", "1000", "0,0,0", "00000", "16389", "0,999,1000,1001"};
        int[] counts = {3, 2, 2, 2, 1, 3, 2, 2, 3, 1};
        int[] leasts = {0, 5, 0, 0, 999, 0, 5, 5, 0, 5};
        for (int i = 0; i < texts.length; i++) {
            few(texts[i]).when("wrongs(0) of " + texts[i], x -> x.wrongs(0)).answers(counts[i]).row(leasts[i], 0)
                .signs(0).holds();
        }
        Bound.says(10, "how many of those told has() would tell not to be in it (each as often as told)");
        few("7").when("wrongs(0) of 7", x -> x.wrongs(0)).answers(3).row(0, 1).signs(0).holds();
        few("7,7,5,8,5").when("wrongs(0) of 7,7,5,8,5", x -> x.wrongs(0)).answers(2).row(0, 3).signs(0).holds();
        few("99999").when("wrongs(0) of 99999", x -> x.wrongs(0)).answers(3).row(0, 1).signs(0).holds();
        few("0,5,999,6").when("wrongs(0) of 0,5,999,6", x -> x.wrongs(0)).answers(0).row(-1, 1).signs(0).holds();
        // 39 ones and a last key of two digits.
        few("7,".repeat(39) + "12").when("wrongs(0) of 40 keys", x -> x.wrongs(0)).answers(3).row(0, 40)
            .signs(0).holds();
    }

    private static void wrongsWithout() {
        Bound.says(10, "the ROW: the least such (NONE without)");
        few("0,5,999").when("wrongs(0) of all", x -> x.wrongs(0)).answers(0).row(-1, 0).signs(0).holds();
        few("").when("wrongs(1) of none", x -> x.wrongs(1)).answers(0).row(-1, 0).signs(0).holds();
        few("5,5").when("wrongs(1) of 5,5", x -> x.wrongs(1)).answers(0).row(-1, 2).signs(0).holds();
        Start.of(14).file(0, 3, 1000).text("").when("key 1000 alone", x -> x.wrongs(0)).answers(0).row(-1, 0).holds();
        Start.of(14).file(0, 3, 999).text("").when("key 999 alone", x -> x.wrongs(0)).answers(1).row(999, 0).holds();
        Start.of(14).file(0, 3, 0).text("").when("key 0 alone", x -> x.wrongs(0)).answers(1).row(0, 0).holds();
        Start.of(14).file(0, 3, 16382).text("").when("as -1 would be", x -> x.wrongs(0)).answers(0).row(-1, 0).holds();
    }

    private static void wrongsOfLikeKeys() {
        Bound.says(10, "that were put in: how many KEYS of 0 .. 999");
        // By P 6, keys 1, 65 .. 961 are alike, and 39, 103 .. 999: sixteen each.
        Start.of(6).file(0, 3, 1, 1).text("1").when("P 6: 1", x -> x.wrongs(0)).answers(15).row(65, 0).signs(0).holds();
        Start.of(6).file(0, 3, 1).text("65,961").when("P 6: 65,961", x -> x.wrongs(0)).answers(14).row(1, 0).signs(0)
            .holds();
        Start.of(6).file(0, 3, 39).text("39").when("P 6: 39", x -> x.wrongs(0)).answers(15).row(103, 0).signs(0).holds();
        // 40, 104 .. 936 are fifteen, as 1000 is out.
        Start.of(6).file(0, 3, 40).text("").when("P 6: 40", x -> x.wrongs(0)).answers(15).row(40, 0).holds();
    }

    private static void wrongsSigns() {
        Bound.says(10, "THE TEXT tells KEYS, likewise (~ at none: it can't stand there)");
        few("~5").when("wrongs(0) of ~5", x -> x.wrongs(0)).empties(-1);
        few("5,~0").when("wrongs(0) of 5,~0", x -> x.wrongs(0)).empties(-3);
        few("5~").when("wrongs(0) of 5~", x -> x.wrongs(0)).empties(-2);
        few("~").when("wrongs(0) of ~", x -> x.wrongs(0)).empties(-1);
        Bound.says(10, "-1 - p: as keys()");
        String[] texts = {",", ",5", "5,", "5,,6", "000005", "5,123456", "x", "5x", "5,6 ", "\u0000", "\u00ff", "/", ":"};
        int[] places = {0, 0, 2, 2, 5, 7, 0, 1, 3, 0, 0, 0, 0};
        for (int i = 0; i < texts.length; i++) {
            few(texts[i]).when("wrongs(0) of " + texts[i], x -> x.wrongs(0)).empties(-1 - places[i]);
        }
        few("1,".repeat(40)).when("wrongs(0) of 80 signs", x -> x.wrongs(0)).empties(-81);
        few("00005").when("wrongs(0) of 00005", x -> x.wrongs(0)).answers(2).row(0, 0).signs(0).holds();
    }
}
