import java.util.Arrays;

/** Promises 11 to 14, sentence by sentence, on both sides of each boundary. */
public final class EdgesOfSlotsTest {
    private static final int MIN = Integer.MIN_VALUE;
    private static final int MAX = Integer.MAX_VALUE;

    public static void main(String[] args) {
        slotTold();
        slotBounds();
        wordTold();
        wordBounds();
        layOfEachQ();
        layMarks();
        layRemainderSigns();
        layRemaindersTooGreat();
        layEnds();
        layTooLong();
        layBags();
        layNoBags();
        layFullFiles();
        layRemaindersOfEmptySlots();
        layEmptiesTheText();
        setWords();
        setAsItIs();
        setBehindTheLastSlot();
        setNoBags();
        setBounds();
        Bound.finish();
    }

    // ---- 11

    private static void slotTold() {
        Bound.says(11, "The REMAINDER in a SLOT; the ROW: OCCUPIED, CONTINUED, SHIFTED (1 or 0 each), the PRINT that lies in it");
        long[][] due = {{6, 1, 1, 1, 62}, {7, 0, 1, 1, 63}, {1, 0, 0, 1, 1}, {0, 1, 0, 0, 24}, {1, 1, 1, 1, 25},
            {1, 0, 0, 1, 33}, {}, {0, 1, 0, 0, 56}};
        for (int i : new int[] {0, 1, 2, 3, 4, 5, 7}) {
            Start.sample().when("slot(0, " + i + ")", x -> x.slot(0, i)).answers(due[i][0])
                .row(Arrays.copyOfRange(due[i], 1, 5)).holds();
        }
        // Of the marks all but CONTINUED in its home can be: OCCUPIED and SHIFTED, too.
        Start.of(6).file(0, 3, 8, 9, 16, 24).when("slot(0, 3)", x -> x.slot(0, 3)).answers(0).row(1, 0, 1, 16).holds();
        Start.of(14).file(0, 6, 16383).when("slot(0, 63)", x -> x.slot(0, 63)).answers(255).row(1, 0, 0, 16383).holds();
        Start.of(14).file(0, 3, 16383).when("slot(0, 7)", x -> x.slot(0, 7)).answers(2047).row(1, 0, 0, 16383).holds();
        Bound.says(11, "-2: it is empty");
        Start.sample().when("slot(0, 6)", x -> x.slot(0, 6)).stays(-2);
        Start.sample().when("slot(1, 0) ahead of a cluster", x -> x.slot(1, 0)).stays(-2);
        Start.sample().when("slot(1, 3) behind a cluster", x -> x.slot(1, 3)).stays(-2);
        Start.of(6).when("slot(0, 0) of none", x -> x.slot(0, 0)).stays(-2);
    }

    private static void slotBounds() {
        Bound.says(11, "NONE: no such SLOT");
        for (int q = 3; q <= 6; q++) {
            int slots = 1 << q;
            Start start = Start.of(14).file(0, q, 0, 16383).file(1, q == 3 ? 6 : 3, 7);
            start.when("slot(0, 0)", x -> x.slot(0, 0)).answers(0).row(1, 0, 0, 0).holds();
            start.when("the last slot", x -> x.slot(0, slots - 1)).answers((1 << (14 - q)) - 1)
                .row(1, 0, 0, 16383).holds();
            for (int i : new int[] {-1, slots, slots + 1, MIN, MAX}) {
                start.when("slot(0, " + i + ") of Q " + q, x -> x.slot(0, i)).stays(-1);
            }
        }
    }

    // ---- 12

    private static void wordTold() {
        Bound.says(12, "WORD k of a FILE.");
        // Six bits each: 62: 7 and 8 times 6; 63: 6 and 8 times 7; 1: 4 and 8; 24: 1; 25: 7 and 8; 33: 4 and 8; none; 56: 1.
        long[] cells = {55, 62, 12, 1, 15, 12, 0, 1};
        long due = 0;
        for (int i = 7; i >= 0; i--) {
            due = due * 64 + cells[i];
        }
        Start.sample().when("word(0, 0)", x -> x.word(0, 0)).stays(due);
        // Five bits each: slot 1: 1 and 8, slot 2: 2 and 4 and 8; slot 10: 1, at bit 50.
        Start.sample().when("word(1, 0)", x -> x.word(1, 0)).stays(9L << 5 | 14L << 10 | 1L << 50);
        Start.sample().when("word(1, 1)", x -> x.word(1, 1)).stays(0);
        // The highest bit of a word.
        Start.of(8).file(0, 3, 255).when("word(0, 0)", x -> x.word(0, 0)).stays(0xf9L << 56);
        // The last slot of all: 11 bits each, slot 63 from bit 693 on, 53 of word 10.
        Start.of(14).file(0, 6, 16383).when("word(0, 10)", x -> x.word(0, 10)).stays(0x7f9L << 53);
        Start.of(14).file(0, 6, 16383).when("word(0, 9)", x -> x.word(0, 9)).stays(0);
    }

    private static void wordBounds() {
        Bound.says(12, "NoSuchElementException: no such FILE, WORD (k is not 0 .. BITS less 1 by 64, cut)");
        // P, Q, the last word: SLOTS times (P - Q + 3) bits.
        int[][] sizes = {{6, 3, 0}, {7, 3, 0}, {8, 3, 0}, {9, 3, 1}, {14, 3, 1}, {6, 4, 1}, {9, 4, 1}, {10, 4, 2},
            {14, 4, 3}, {6, 5, 1}, {7, 5, 2}, {8, 5, 2}, {9, 5, 3}, {10, 5, 3}, {14, 5, 5}, {7, 6, 3}, {8, 6, 4},
            {13, 6, 9}, {14, 6, 10}};
        for (int[] size : sizes) {
            int last = size[2];
            Start start = Start.of(size[0]).file(0, size[1]).file(1, size[1] == 3 ? 4 : 3);
            start.when("word(0, " + last + ")", x -> x.word(0, last)).stays(0);
            start.when("word(0, " + (last + 1) + ")", x -> x.word(0, last + 1)).fails();
            start.when("word(0, -1)", x -> x.word(0, -1)).fails();
        }
        Start.sample().when("word(0, 1)", x -> x.word(0, 1)).fails();
        Start.sample().when("word(0, MIN)", x -> x.word(0, MIN)).fails();
        Start.sample().when("word(0, MAX)", x -> x.word(0, MAX)).fails();
        // 64 times this goes round to 0.
        Start.sample().when("word(0, 2 to the 26)", x -> x.word(0, 1 << 26)).fails();
        Start.sample().when("word(2, 0)", x -> x.word(2, 0)).fails();
        Start.sample().when("word(-1, 0)", x -> x.word(-1, 0)).fails();
    }

    // ---- 13

    private static final String NONE_8 = "0000".repeat(8);

    private static Start lay(int p, String text) {
        return Start.of(p).file(0, 5, 9, 9).file(1, 3, 7).text(text);
    }

    private static void layOfEachQ() {
        Bound.says(13, "THE TEXT is a FILE as it lies, of Q 3 or 4 (below P)");
        for (int p = 6; p <= 14; p++) {
            lay(p, "3" + NONE_8).when("P " + p + ": lays(0) of 3", x -> x.lays(0)).answers(0).signs(0).file(0, 3).holds();
            lay(p, "4" + NONE_8 + NONE_8).when("P " + p + ": lays(0) of 4", x -> x.lays(0)).answers(0).signs(0)
                .file(0, 4).holds();
        }
        for (char digit : new char[] {'2', '5', '6', '0', '1', '7', '9', ' ', 'a', 0, 51 + 128, 255}) {
            lay(6, digit + NONE_8 + NONE_8).when("lays(0), first sign " + (int) digit, x -> x.lays(0)).empties(-1);
        }
        // By each digit its own number of slots is due.
        lay(6, "3" + NONE_8 + NONE_8).when("3 and 16 slots", x -> x.lays(0)).empties(-34);
        lay(6, "4" + NONE_8).when("4 and 8 slots", x -> x.lays(0)).empties(-34);
    }

    private static void layMarks() {
        Bound.says(13, "that digit, then for each SLOT by numbers a digit 0 .. 7 (1: OCCUPIED, 2: CONTINUED, 4: SHIFTED, together)");
        lay(6, "3" + "7006" + "6007" + "4001" + "1000" + "7001" + "4001" + "0000" + "1000")
            .when("lays(0) of the sample", x -> x.lays(0)).answers(7).signs(0)
            .file(0, 3, 1, 24, 25, 33, 56, 62, 63).holds();
        lay(6, "3" + "0000" + "1000" + "7001" + "5000" + "4000" + "0000" + "0000" + "0000")
            .when("lays(0) with 5", x -> x.lays(0)).answers(4).signs(0).file(0, 3, 8, 9, 16, 24).holds();
        for (char sign : new char[] {'8', '9', 'a', 'f', '/', ':', ' ', 0, 48 + 128, 255}) {
            lay(6, "3" + sign + "000" + "0000".repeat(7)).when("marks " + (int) sign + " of slot 0", x -> x.lays(0))
                .empties(-2);
            lay(6, "3" + "0000".repeat(7) + sign + "000").when("marks " + (int) sign + " of slot 7", x -> x.lays(0))
                .empties(-30);
            lay(6, "4" + "0000".repeat(15) + sign + "000").when("marks " + (int) sign + " of slot 15", x -> x.lays(0))
                .empties(-62);
        }
    }

    private static void layRemainderSigns() {
        Bound.says(13, "and three signs 0 .. 9, a .. f: its REMAINDER");
        String digits = "0123456789abcdef";
        for (int i = 0; i < 16; i++) {
            char digit = digits.charAt(i);
            lay(14, "3" + "100" + digit + "0000".repeat(7)).when("remainder 00" + digit, x -> x.lays(0)).answers(1)
                .signs(0).file(0, 3, i).holds();
            lay(14, "3" + "10" + digit + "1" + "0000".repeat(7)).when("remainder 0" + digit + "1", x -> x.lays(0))
                .answers(1).signs(0).file(0, 3, 16 * i + 1).holds();
            if (i < 8) {
                lay(14, "3" + "1" + digit + "01" + "0000".repeat(7)).when("remainder " + digit + "01", x -> x.lays(0))
                    .answers(1).signs(0).file(0, 3, 256 * i + 1).holds();
            }
        }
        for (char sign : new char[] {'/', ':', '`', 'g', 'A', 'F', '@', ' ', 'x', 0, 48 + 128, 255}) {
            for (int at = 2; at <= 4; at++) {
                StringBuilder text = new StringBuilder("3" + "1000" + "0000".repeat(7));
                text.setCharAt(at, sign);
                lay(14, text.toString()).when("sign " + (int) sign + " at " + at, x -> x.lays(0)).empties(-1 - at);
                text.setCharAt(at, '0');
                text.setCharAt(at + 28, sign);
                lay(14, text.toString()).when("sign " + (int) sign + " at " + (at + 28), x -> x.lays(0))
                    .empties(-29 - at);
            }
        }
    }

    private static String hex(int remainder) {
        return String.format("%03x", remainder);
    }

    private static void layRemaindersTooGreat() {
        Bound.says(13, "(the last one of a REMAINDER that is too great");
        for (int p = 6; p <= 14; p++) {
            for (int q = 3; q <= 4; q++) {
                int newQ = q;
                int slots = 1 << q;
                int over = 1 << (p - q);
                for (int s : new int[] {0, slots - 1}) {
                    String ahead = q + "0000".repeat(s) + "1";
                    String behind = "0000".repeat(slots - 1 - s);
                    lay(p, ahead + hex(over - 1) + behind).when("P " + p + ": " + hex(over - 1), x -> x.lays(0))
                        .answers(1).signs(0).file(0, newQ, s * over + over - 1).holds();
                    lay(p, ahead + hex(over) + behind).when("P " + p + ": " + hex(over), x -> x.lays(0))
                        .empties(-1 - (4 * s + 4));
                    lay(p, ahead + "fff" + behind).when("P " + p + ": fff", x -> x.lays(0)).empties(-1 - (4 * s + 4));
                }
            }
        }
        // The leftmost sign that can't stand is told; an empty slot's remainder can be too great, too.
        lay(6, "3" + "1008" + "8").when("too great, then a wrong sign", x -> x.lays(0)).empties(-5);
        lay(6, "3" + "1f0g").when("a wrong sign ends what is too great", x -> x.lays(0)).empties(-5);
        lay(6, "3" + "1fg8").when("a wrong sign in what is too great", x -> x.lays(0)).empties(-4);
        lay(6, "3" + "0008" + "0000".repeat(7)).when("too great in an empty slot", x -> x.lays(0)).empties(-5);
        lay(6, "3" + "0007" + "0000".repeat(7)).when("not too great in an empty slot", x -> x.lays(0)).empties(-300);
        lay(6, "3" + "1000".repeat(7) + "1008").when("too great, and a full file", x -> x.lays(0)).empties(-33);
    }

    private static void layEnds() {
        Bound.says(13, "its end, if it ends too early)");
        String of3 = "3" + "1003" + "0000".repeat(7);
        String of4 = "4" + "1003" + "0000".repeat(15);
        for (int n = 0; n < 33; n++) {
            lay(6, of3.substring(0, n)).when("lays(0) of " + n + " signs", x -> x.lays(0)).empties(-1 - n);
        }
        lay(6, of3).when("lays(0) of 33 signs", x -> x.lays(0)).answers(1).signs(0).file(0, 3, 3).holds();
        for (int n = 1; n < 65; n++) {
            lay(6, of4.substring(0, n)).when("lays(0) of " + n + " signs by 4", x -> x.lays(0)).empties(-1 - n);
        }
        lay(6, of4).when("lays(0) of 65 signs by 4", x -> x.lays(0)).answers(1).signs(0).file(0, 4, 3).holds();
        // Ends in what is too great already: the end is reached first.
        lay(6, "3" + "1ff").when("ends ahead of the last sign", x -> x.lays(0)).empties(-5);
    }

    private static void layTooLong() {
        Bound.says(13, "-1 - p: the sign at p can't stand there");
        for (String more : new String[] {"0", "1", "3", "\u0000", "0000", "x"}) {
            lay(6, "3" + NONE_8 + more).when("34 signs and more", x -> x.lays(0)).empties(-34);
            lay(6, "4" + NONE_8 + NONE_8 + more).when("66 signs and more", x -> x.lays(0)).empties(-66);
        }
        lay(6, "4" + NONE_8 + NONE_8 + "0".repeat(15)).when("80 signs", x -> x.lays(0)).empties(-66);
        // A sign too many comes ahead of no bag.
        lay(6, "3" + "2000".repeat(8) + "0").when("no bag, a sign too many", x -> x.lays(0)).empties(-34);
    }

    private static void layBags() {
        Bound.says(13, "how many PRINTS are in the FILE then");
        lay(6, "3" + "1003" + "6003" + "0000".repeat(6)).when("like ones", x -> x.lays(0)).answers(2).signs(0)
            .file(0, 3, 3, 3).holds();
        lay(6, "3" + "1003" + "0000".repeat(7)).when("into the other", x -> x.lays(1)).answers(1).signs(0)
            .file(1, 3, 3).holds();
        lay(6, "3" + "6001" + "0000".repeat(6) + "1000").when("going round", x -> x.lays(0)).answers(2).signs(0)
            .file(0, 3, 56, 57).holds();
        lay(6, "3" + "7001" + "4000" + "0000".repeat(5) + "1000").when("going round, with 0", x -> x.lays(0)).answers(3)
            .signs(0).file(0, 3, 0, 56, 57).holds();
        lay(6, "4" + "7001" + "4002" + "0000".repeat(13) + "1000").when("going round of 16", x -> x.lays(0)).answers(3)
            .signs(0).file(0, 4, 2, 60, 61).holds();
        lay(6, "3" + "1000" + "1000" + "0000".repeat(5) + "1000").when("side by side", x -> x.lays(0)).answers(3)
            .signs(0).file(0, 3, 0, 8, 56).holds();
    }

    private static void layNoBags() {
        Bound.says(13, "-300: no bag of PRINTS lies so");
        String[] slots = {
            "2000 0000 0000 0000 0000 0000 0000 0000", // continued alone
            "3000 0000 0000 0000 0000 0000 0000 0000", // continued in its home
            "4000 0000 0000 0000 0000 0000 0000 0000", // shifted, of no run
            "5000 0000 0000 0000 0000 0000 0000 0000", // shifted, though its home is free
            "6000 0000 0000 0000 0000 0000 0000 0000", // continued, of no run
            "7000 0000 0000 0000 0000 0000 0000 0000", // of a run that goes on from nothing
            "1000 2000 0000 0000 0000 0000 0000 0000", // continued, but not shifted
            "1000 3000 0000 0000 0000 0000 0000 0000", // the same with a run of its own
            "1000 5000 0000 0000 0000 0000 0000 0000", // shifted in its home
            "1000 4000 0000 0000 0000 0000 0000 0000", // a run too many
            "1000 7001 0000 0000 0000 0000 0000 0000", // a run too few
            "1000 0000 6001 0000 0000 0000 0000 0000", // a hole in a run
            "1000 0000 4001 0000 0000 0000 0000 0000", // a run behind a hole
            "1002 6001 0000 0000 0000 0000 0000 0000", // remainders falling
            "1000 6002 6001 0000 0000 0000 0000 0000", // remainders falling later
            "0000 1000 7001 0000 4000 0000 0000 0000", // a shifted run that is not near
            "1000 6001 6002 5000 4000 0000 0000 0000", // a run from its home on, marked as shifted
            "6001 0000 0000 0000 0000 0000 0000 0000", // going round from an empty slot
            "6001 0000 0000 0000 0000 0000 0000 1002", // falling over the end
            "4001 0000 0000 0000 0000 0000 0000 1000", // a run too many over the end
            "1000 0000 0000 0000 0000 0000 0000 5000", // shifted, with 0 behind it
            "7001 0000 0000 0000 0000 0000 0000 1000"}; // the run of 0 is missing
        for (String s : slots) {
            lay(6, "3" + s.replace(" ", "")).when("lays(0) of " + s, x -> x.lays(0)).empties(-300);
            lay(6, "4" + s.replace(" ", "").substring(0, 28) + NONE_8 + s.substring(s.length() - 4))
                .when("lays(0) of 16, " + s, x -> x.lays(0)).empties(-300);
        }
        // Beside each of these there is one that lies.
        lay(6, "3" + "1001" + "6002" + "0000".repeat(6)).when("rising", x -> x.lays(0)).answers(2).signs(0)
            .file(0, 3, 1, 2).holds();
        lay(6, "3" + "1000" + "7001" + "4000" + "0000".repeat(5)).when("two runs", x -> x.lays(0)).answers(3).signs(0)
            .file(0, 3, 0, 1, 8).holds();
    }

    private static void layFullFiles() {
        Bound.says(13, "-300: no bag of PRINTS lies so");
        lay(6, "3" + "1000".repeat(8)).when("8 of 8", x -> x.lays(0)).empties(-300);
        lay(6, "3" + "1000".repeat(7) + "0000").when("7 of 8", x -> x.lays(0)).answers(7).signs(0)
            .file(0, 3, 0, 8, 16, 24, 32, 40, 48).holds();
        lay(6, "3" + "0000" + "1000".repeat(7)).when("7 of 8", x -> x.lays(0)).answers(7).signs(0)
            .file(0, 3, 8, 16, 24, 32, 40, 48, 56).holds();
        lay(6, "4" + "1000".repeat(16)).when("16 of 16", x -> x.lays(0)).empties(-300);
        lay(6, "4" + "1000" + "6000".repeat(14) + "0000").when("15 of 16", x -> x.lays(0)).answers(15).signs(0)
            .file(0, 4, Start.times(15, 0)).holds();
        lay(6, "4" + "1000" + "6000".repeat(15)).when("16 of 16, one run", x -> x.lays(0)).empties(-300);
        lay(6, "3" + "1000" + "6000".repeat(7)).when("8 of 8, one run", x -> x.lays(0)).empties(-300);
        lay(6, "3" + "7000" + "6000".repeat(7)).when("8 of 8, all shifted", x -> x.lays(0)).empties(-300);
        lay(6, "3" + "5000".repeat(8)).when("8 of 8, each beside its home", x -> x.lays(0)).empties(-300);
    }

    private static void layRemaindersOfEmptySlots() {
        Bound.says(13, "(REMAINDERS of empty SLOTS, too, must be 0)");
        for (int s = 0; s < 8; s++) {
            String one = "0000".repeat(s) + "0001" + "0000".repeat(7 - s);
            lay(6, "3" + one).when("slot " + s + " is empty with 1", x -> x.lays(0)).empties(-300);
        }
        lay(14, "4" + NONE_8 + "0000".repeat(7) + "0200").when("slot 15 is empty with 200", x -> x.lays(0)).empties(-300);
        lay(6, "3" + "1003" + "0000".repeat(6) + "0004").when("one print, and it", x -> x.lays(0)).empties(-300);
    }

    private static void layEmptiesTheText() {
        Bound.says(13, "how many PRINTS are in the FILE then");
        lay(6, "3" + "1003" + "0000".repeat(7)).when("lays(0) twice", x -> {
            x.lays(0);
            return x.lays(0);
        }).answers(-1).signs(0).file(0, 3, 3).holds();
    }

    // ---- 14

    private static void setWords() {
        Bound.says(14, "WORD k of a FILE becomes high (its highest 32 bits) and low: how many PRINTS are in it then");
        // Eight bits each: slot 3 ends the low half, slot 7 the high one.
        Start of8 = Start.of(8).file(1, 3, 40);
        of8.when("low below 0, high 0", x -> x.sets(0, 0, 0, 0xf9000000)).answers(1).file(0, 3, 127).holds();
        of8.when("high below 0, low 0", x -> x.sets(0, 0, 0xf9000000, 0)).answers(1).file(0, 3, 255).holds();
        of8.when("both below 0", x -> x.sets(0, 0, 0xf9000000, 0xf9000000)).answers(2).file(0, 3, 127, 255).holds();
        of8.when("the lowest bit of high", x -> x.sets(0, 0, 1, 0)).answers(1).file(0, 3, 128).holds();
        of8.when("the lowest bit of low", x -> x.sets(0, 0, 0, 1)).answers(1).file(0, 3, 0).holds();
        of8.when("none", x -> x.sets(1, 0, 0, 0)).answers(0).file(1, 3).holds();
        of8.when("another file", x -> x.sets(1, 0, 0, 1)).answers(1).file(1, 3, 0).holds();
        of8.when("7 of 8", x -> x.sets(0, 0, 0x01010101, 0x01010100)).answers(7)
            .file(0, 3, 32, 64, 96, 128, 160, 192, 224).holds();
        // A slot that lies in two words: of 14 bits each slot 4 has eight in word 0.
        Start of14 = Start.of(14).file(0, 3, 4 << 11 | 2047);
        of14.when("its low half", x -> x.sets(0, 0, 0x01000000, 0)).answers(1).file(0, 3, 4 << 11 | 2047 - 31).holds();
        of14.when("its high half", x -> x.sets(0, 1, 0, 0)).answers(1).file(0, 3, 4 << 11 | 31).holds();
        // The other words stay: 11 bits each, 11 words.
        Start many = Start.of(14).file(0, 6, 0, 40 << 8, 16383);
        many.when("word 10 of 11", x -> x.sets(0, 10, 0, 0)).answers(2).file(0, 6, 0, 40 << 8).holds();
        many.when("word 0 of 11", x -> x.sets(0, 0, 0, 9)).answers(3).file(0, 6, 1, 40 << 8, 16383).holds();
    }

    private static void setAsItIs() {
        Bound.says(14, "-2: it is so");
        Start.of(8).when("none", x -> x.sets(0, 0, 0, 0)).stays(-2);
        Start.of(8).file(0, 3, 127, 255).when("as it is", x -> x.sets(0, 0, 0xf9000000, 0xf9000000)).stays(-2);
        Start.of(8).file(0, 3, 127).when("low as it is", x -> x.sets(0, 0, 0, 0xf9000000)).stays(-2);
        Start.of(8).file(0, 3, 255).when("high as it is", x -> x.sets(0, 0, 0xf9000000, 0)).stays(-2);
        Start.of(14).file(0, 6, 16383).when("word 10 as it is", x -> x.sets(0, 10, 0xff200000, 0)).stays(-2);
        Start.of(14).file(0, 6, 16383).when("word 9 as it is", x -> x.sets(0, 9, 0, 0)).stays(-2);
        Start.of(8).file(0, 3, 127).when("high another", x -> x.sets(0, 0, 1, 0xf9000000)).answers(2)
            .file(0, 3, 127, 128).holds();
    }

    private static void setBehindTheLastSlot() {
        Bound.says(14, "(bits behind the last SLOT, too, must be 0)");
        // 48 bits: the last one is bit 15 of high.
        Start of48 = Start.of(6).file(0, 3, 56);
        of48.when("bit 47", x -> x.sets(0, 0, 0x8400, 0)).answers(1).file(0, 3, 60).holds();
        of48.when("bit 48", x -> x.sets(0, 0, 0x10400, 0)).stays(-300);
        of48.when("bit 63", x -> x.sets(0, 0, MIN | 0x400, 0)).stays(-300);
        of48.when("bit 48 alone", x -> x.sets(0, 0, 0x10000, 0)).stays(-300);
        // 72 bits: slot 7 from bit 63 on; word 1 has eight bits.
        Start of72 = Start.of(9).file(0, 3, 7 << 6);
        of72.when("bit 71", x -> x.sets(0, 1, 0, 0x80)).answers(1).file(0, 3, 7 << 6 | 32).holds();
        of72.when("bit 72", x -> x.sets(0, 1, 0, 0x100)).stays(-300);
        of72.when("bit 127", x -> x.sets(0, 1, MIN, 0)).stays(-300);
        of72.when("bit 96", x -> x.sets(0, 1, 1, 0)).stays(-300);
        // 64 and 128 bits: none is behind the last slot.
        Start.of(8).when("bit 63 of 64", x -> x.sets(0, 0, 0x81000000, 0)).answers(1).file(0, 3, 7 << 5 | 16).holds();
        Start.of(9).file(0, 4).when("bit 127 of 128", x -> x.sets(0, 1, 0x81000000, 0)).answers(1)
            .file(0, 4, 15 << 5 | 16).holds();
        // 80 bits: word 1 has sixteen.
        Start.of(6).file(0, 4).when("bit 79 of 80", x -> x.sets(0, 1, 0, 0x8800)).answers(1).file(0, 4, 62).holds();
        Start.of(6).file(0, 4).when("bit 80 of 80", x -> x.sets(0, 1, 0, 0x10800)).stays(-300);
    }

    private static void setNoBags() {
        Bound.says(14, "-300: no bag of PRINTS lies so");
        Start of8 = Start.of(8).file(0, 3, 40).file(1, 3, 1);
        int[] lows = {2, 3, 4, 5, 6, 7, 8, 0xf8, 0x0201, 0x0501, 0x0401, 0x0e11};
        for (int low : lows) {
            of8.when("sets(0, 0, 0, " + low + ")", x -> x.sets(0, 0, 0, low)).stays(-300);
        }
        of8.when("remainders rising", x -> x.sets(0, 0, 0, 0x1e11)).answers(2).file(0, 3, 2, 3).holds();
        of8.when("8 of 8", x -> x.sets(0, 0, 0x01010101, 0x01010101)).stays(-300);
        of8.when("all bits", x -> x.sets(0, 0, -1, -1)).stays(-300);
        // The words of one file must go together: slot 4 of 14 bits has its marks in word 0.
        Start of14 = Start.of(14).file(0, 3, 4 << 11 | 2047);
        of14.when("marks go, the remainder stays", x -> x.sets(0, 0, 0, 0)).stays(-300);
        Start.of(14).when("a remainder without marks", x -> x.sets(0, 1, 0, 1)).stays(-300);
        // A run over two words: 8 bits each, slot 7 in word 0, slot 8 in word 1.
        Start run = Start.of(9).file(0, 4, 7 << 5, 7 << 5 | 1);
        run.when("its second one goes", x -> x.sets(0, 1, 0, 0)).answers(1).file(0, 4, 7 << 5).holds();
        run.when("its first one goes", x -> x.sets(0, 0, 0, 0)).stays(-300);
    }

    private static void setBounds() {
        Bound.says(14, "NONE: no such FILE, WORD");
        for (int k : new int[] {-1, 1, 2, MIN, MAX, 1 << 26}) {
            Start.sample().when("sets(0, " + k + ", 0, 0)", x -> x.sets(0, k, 0, 0)).stays(-1);
            Start.sample().when("sets(0, " + k + ", -1, -1)", x -> x.sets(0, k, -1, -1)).stays(-1);
        }
        Start.sample().when("sets(1, 1, 0, 0): it is so", x -> x.sets(1, 1, 0, 0)).stays(-2);
        Start.sample().when("sets(1, 2, 0, 0)", x -> x.sets(1, 2, 0, 0)).stays(-1);
        Start.of(14).file(0, 6).when("sets(0, 10, 0, 0): it is so", x -> x.sets(0, 10, 0, 0)).stays(-2);
        Start.of(14).file(0, 6).when("sets(0, 11, 0, 0)", x -> x.sets(0, 11, 0, 0)).stays(-1);
        for (int file : new int[] {-1, 2, MIN, MAX}) {
            Start.sample().when("sets(" + file + ", 0, 0, 1)", x -> x.sets(file, 0, 0, 1)).stays(-1);
            Start.sample().when("sets(" + file + ", 0, -1, -1)", x -> x.sets(file, 0, -1, -1)).stays(-1);
        }
    }
}
