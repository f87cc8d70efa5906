/** Promises 11 to 14: slot, word, lays, sets. */
public final class SlotsTest {
    public static void main(String[] args) {
        slotsTold();
        wordsTold();
        wordsBySize();
        layTexts();
        layWrongSigns();
        layWhatCantLie();
        layLargeFiles();
        layAllDigits();
        setWords();
        setWhatCantLie();
        setLargerFiles();
        Due.finish();
    }

    /** 56, 62, 63 in slots 7, 0, 1; 1 in 2; 24, 25 in 3, 4; 33 in 5. */
    private static QuotientFile sample() {
        QuotientFile x = Due.plain6();
        x.load(95);
        Due.putAll(x, 0, 63, 62, 56, 1, 24, 25, 33);
        return x;
    }

    private static void slotsTold() {
        QuotientFile x = sample();
        long[][] due = {{6, 1, 1, 1, 62}, {7, 0, 1, 1, 63}, {1, 0, 0, 1, 1}, {0, 1, 0, 0, 24}, {1, 1, 1, 1, 25},
            {1, 0, 0, 1, 33}, {-2}, {0, 1, 0, 0, 56}};
        for (int i = 0; i < 8; i++) {
            Due.is("slot(0, " + i + ")", x.slot(0, i), due[i][0]);
            if (due[i].length > 1) {
                Due.row("slot(0, " + i + ")", x, due[i][1], due[i][2], due[i][3], due[i][4]);
            }
        }
        Due.is("slot(0, 8)", x.slot(0, 8), -1);
        Due.is("slot(0, -1)", x.slot(0, -1), -1);
        Due.is("slot(2, 0)", x.slot(2, 0), -1);
        Due.is("slot(-1, 0)", x.slot(-1, 0), -1);
        Due.is("slot(1, 0)", x.slot(1, 0), -2);
        Due.is("slot(0, 6)", x.slot(0, 6), -2);
        Due.row("refused slot", x, 1, 0, 0, 56);
        x.doubles(0);
        Due.is("doubled: slot(0, 14)", x.slot(0, 14), 0);
        Due.row("doubled: slot(0, 14)", x, 1, 0, 0, 56);
        Due.is("doubled: slot(0, 0)", x.slot(0, 0), 3);
        Due.row("doubled: slot(0, 0)", x, 1, 1, 1, 63);
        Due.is("doubled: slot(0, 1)", x.slot(0, 1), 1);
        Due.row("doubled: slot(0, 1)", x, 0, 0, 1, 1);
        Due.is("doubled: slot(0, 16)", x.slot(0, 16), -1);
    }

    private static void wordsTold() {
        QuotientFile x = sample();
        long[] cells = {7 + 6 * 8, 6 + 7 * 8, 4 + 8, 1, 7 + 8, 4 + 8, 0, 1};
        long word = 0;
        for (int i = 0; i < 8; i++) {
            word |= cells[i] << (6 * i);
        }
        x.nth(0, 0);
        Due.is("word(0, 0)", x.word(0, 0), word);
        Due.is("word(1, 0)", x.word(1, 0), 0);
        Due.noWord(x, 0, 1);
        Due.noWord(x, 0, -1);
        Due.noWord(x, 0, Integer.MAX_VALUE);
        Due.noWord(x, 0, Integer.MIN_VALUE);
        Due.noWord(x, 2, 0);
        Due.noWord(x, -1, 0);
        Due.row("word", x, 2);
        QuotientFile y = new QuotientFile();
        y.shape(10, Due.PLAIN_10);
        y.puts(1, 6 << 7 | 85);
        Due.is("word(1, 0): half of slot 6", y.word(1, 0), 0x9000000000000000L);
        Due.is("word(1, 1): the other half", y.word(1, 1), 42);
        Due.noWord(y, 1, 2);
        QuotientFile z = new QuotientFile();
        z.shape(9, (1 << 23) + 1);
        z.doubles(0);
        Due.putAll(z, 0, 10, 8 << 5 | 21);
        Due.is("slot 0 in word 0 alone", z.word(0, 0), 10 * 8 + 1);
        Due.is("slot 8 in word 1 alone", z.word(0, 1), 21 * 8 + 1);
    }

    private static void wordsBySize() {
        // P, Q, the last WORD: SLOTS times (P - Q + 3) bits.
        int[][] sizes = {{6, 3, 0}, {6, 4, 1}, {6, 5, 1}, {8, 3, 0}, {8, 4, 1}, {9, 3, 1}, {10, 6, 6}, {14, 3, 1},
            {14, 4, 3}, {14, 5, 5}, {14, 6, 10}};
        for (int[] size : sizes) {
            QuotientFile x = new QuotientFile();
            x.shape(size[0], 1);
            for (int q = 3; q < size[1]; q++) {
                x.doubles(0);
            }
            Due.is("the last word", x.word(0, size[2]), 0);
            Due.noWord(x, 0, size[2] + 1);
        }
    }

    private static void layTexts() {
        QuotientFile x = sample();
        x.nth(0, 1);
        Due.text(x, "3" + "7006" + "6007" + "4001" + "1000" + "7001" + "4001" + "0000" + "1000");
        Due.is("lays(1)", x.lays(1), 7);
        Due.is("lays: the text", x.count(0, 10), 0);
        Due.row("lays leaves the row", x, 3);
        Due.prints("lays(1)", x, 1, 1, 24, 25, 33, 56, 62, 63);
        Due.is("the words are like", x.word(1, 0), x.word(0, 0));
        Due.text(x, "3" + "0000".repeat(8));
        Due.is("lays(1) of none", x.lays(1), 0);
        Due.is("prints", x.count(1, 0), 0);
        Due.text(x, "4" + "1003" + "0000".repeat(15));
        Due.is("lays(0) of 16 slots", x.lays(0), 1);
        Due.prints("lays(0) of 16 slots", x, 0, 3);
        Due.is("Q", x.count(0, 2), 4);
        Due.text(x, "3" + "1003" + "0000".repeat(7));
        Due.is("lays(0) of 8 slots", x.lays(0), 1);
        Due.is("Q", x.count(0, 2), 3);
        Due.text(x, "3" + "1003" + "6003" + "0000".repeat(6));
        Due.is("lays(0) of like ones", x.lays(0), 2);
        Due.prints("lays(0) of like ones", x, 0, 3, 3);
    }

    private static void layWrongSigns() {
        QuotientFile x = Due.plain6();
        x.puts(0, 9);
        String[] texts = {"", "2", "5", "x", "3", "38", "3/", "3a", "31", "310", "3100", "3100g", "3100A", "3100/",
            "3100:", "31008", "310f0", "3f", "3" + "0000".repeat(8) + "0", "3" + "0000".repeat(7) + "000",
            "4" + "0000".repeat(8), "40004", "4" + "0000".repeat(16) + "\u0000", "3\u00b1", "3100\u00e1",
            "31009" + "0000".repeat(7) + "0"};
        int[] places = {0, 0, 0, 0, 1, 1, 1, 1, 2, 3, 4, 4, 4, 4, 4, 4, 4, 1, 33, 32, 33, 4, 65, 1, 4, 4};
        for (int i = 0; i < texts.length; i++) {
            Due.text(x, texts[i]);
            Due.is("lays of " + texts[i], x.lays(0), -1 - places[i]);
            Due.is("lays of " + texts[i] + ": the text", x.count(0, 10), 0);
        }
        Due.row("refused lays", x, 1, 1);
        Due.prints("refused lays", x, 0, 9);
        Due.text(x, "3" + "1003" + "0000".repeat(7));
        Due.is("lays(2)", x.lays(2), -1);
        Due.is("lays(2): the text", x.count(0, 10), 0);
    }

    private static void layWhatCantLie() {
        QuotientFile x = Due.plain6();
        x.puts(0, 9);
        x.doubles(0);
        String[] slots = {
            "1000".repeat(8),                                           // no slot is empty
            "0001" + "0000".repeat(7),                                  // a remainder in an empty slot
            "2000" + "0000".repeat(7),                                  // continued alone
            "4000" + "0000".repeat(7),                                  // a shifted one without a run
            "3000" + "0000".repeat(7),                                  // continued in its home
            "5000" + "0000".repeat(7),                                  // shifted without cause
            "1000" + "1000" + "4000" + "0000".repeat(5),                // a run too many
            "1000" + "2000" + "0000".repeat(6),                         // continued, but not shifted
            "1000" + "5000" + "0000".repeat(6),                         // a home without its run
            "1002" + "6001" + "0000".repeat(6),                         // remainders falling
            "1000" + "0000" + "6001" + "0000".repeat(5),                // a hole in a run
            "1000" + "5000" + "4001" + "1000" + "4000" + "0000".repeat(3)}; // a run that is not near to home
        for (String s : slots) {
            Due.text(x, "3" + s);
            Due.is("lays of 3" + s, x.lays(0), -300);
            Due.is("lays of 3" + s + ": the text", x.count(0, 10), 0);
        }
        Due.row("what can't lie", x, 1, 1);
        Due.prints("what can't lie", x, 0, 9);
        Due.is("Q", x.count(0, 2), 4);
    }

    private static void layLargeFiles() {
        QuotientFile x = new QuotientFile();
        x.shape(14, Due.PLAIN_14);
        Due.text(x, "3" + "17ff" + "0000".repeat(7));
        Due.is("lays: 7ff of 11 bits", x.lays(0), 1);
        Due.prints("lays: 7ff of 11 bits", x, 0, 2047);
        Due.text(x, "3" + "1800" + "0000".repeat(7));
        Due.is("lays: 800 of 11 bits", x.lays(0), -5);
        Due.text(x, "4" + "0000".repeat(14) + "13fe" + "13ff");
        Due.is("lays: 3ff of 10 bits", x.lays(1), 2);
        Due.prints("lays: 3ff of 10 bits", x, 1, 14 << 10 | 1022, 16383);
        Due.text(x, "4" + "0000".repeat(15) + "1400");
        Due.is("lays: 400 of 10 bits", x.lays(1), -65);
        Due.text(x, "4" + "1000".repeat(15) + "0000");
        Due.is("lays: 15 of 16", x.lays(1), 15);
        Due.text(x, "4" + "1000".repeat(16));
        Due.is("lays: 16 of 16", x.lays(1), -300);
        Due.text(x, "4" + "7001" + "6002" + "4005" + "0000".repeat(12) + "1000");
        Due.is("lays going round", x.lays(1), 4);
        Due.prints("lays going round", x, 1, 5, 15 << 10, 15 << 10 | 1, 15 << 10 | 2);
    }

    private static void setWords() {
        QuotientFile x = new QuotientFile();
        x.shape(10, Due.PLAIN_10);
        x.puts(1, 1);
        Due.is("sets(0, 0, ..)", x.sets(0, 0, 0x90000000, 0), 1);
        Due.prints("sets(0, 0, ..)", x, 0, 6 << 7 | 1);
        Due.is("sets(0, 1, ..)", x.sets(0, 1, 0, 42), 1);
        Due.prints("sets(0, 1, ..)", x, 0, 6 << 7 | 85);
        Due.is("sets(0, 1, ..) again", x.sets(0, 1, 0, 42), -2);
        Due.is("sets(0, 0, ..) again", x.sets(0, 0, 0x90000000, 0), -2);
        Due.is("sets low bits", x.sets(0, 0, 0x90000000, 1), 2);
        Due.is("word", x.word(0, 0), 0x9000000000000001L);
        Due.row("sets leaves the row", x, 6);
        Due.prints("sets low bits", x, 0, 0, 6 << 7 | 85);
        Due.is("sets none", x.sets(1, 0, 0, 0), 0);
        Due.is("sets none again", x.sets(1, 0, 0, 0), -2);
        QuotientFile y = new QuotientFile();
        y.shape(8, Due.PLAIN_8);
        y.load(95);
        Due.is("the highest bit", y.sets(0, 0, 0xf9010101, 0x81010101), -300);
        Due.is("eight bits a slot", y.sets(0, 0, 0xf9010101, 0x81010100), 7);
        Due.prints("eight bits a slot", y, 0, 32, 64, 96 + 16, 128, 160, 192, 7 * 32 + 31);
        Due.is("Q stays", y.count(0, 2), 3);
    }

    private static void setWhatCantLie() {
        QuotientFile x = new QuotientFile();
        x.shape(10, Due.PLAIN_10);
        x.puts(0, 6 << 7 | 85);
        Due.is("bits behind the last slot", x.sets(0, 1, 0, 42 | 1 << 16), -300);
        Due.is("bits behind the last slot", x.sets(0, 1, Integer.MIN_VALUE, 42), -300);
        Due.is("continued alone", x.sets(0, 0, 0x90000000, 2), -300);
        Due.is("a remainder in an empty slot", x.sets(0, 0, 0x90000000, 8), -300);
        Due.is("a remainder without marks", x.sets(0, 0, 0, 0), -300);
        Due.is("sets(0, 2, ..)", x.sets(0, 2, 0, 0), -1);
        Due.is("sets(0, -1, ..)", x.sets(0, -1, 0, 0), -1);
        Due.is("sets(2, 0, ..)", x.sets(2, 0, 0, 0), -1);
        Due.is("sets(-1, 0, ..)", x.sets(-1, 0, 0, 0), -1);
        Due.row("refused sets", x, 6, 1);
        Due.prints("refused sets", x, 0, 6 << 7 | 85);
    }

    private static void layAllDigits() {
        QuotientFile x = new QuotientFile();
        x.shape(14, Due.PLAIN_14);
        String digits = "0123456789abcdef";
        for (int i = 0; i < 16; i++) {
            Due.text(x, "3" + "10" + digits.charAt(i) + digits.charAt(15 - i) + "0000".repeat(7));
            Due.is("lays: digit " + i, x.lays(0), 1);
            Due.prints("lays: digit " + i, x, 0, 16 * i + 15 - i);
        }
        String[] wrong = {"g", "`", "/", ":", "A", "F", "@", " ", "~"};
        for (String sign : wrong) {
            Due.text(x, "310" + sign + "0" + "0000".repeat(7));
            Due.is("lays: sign " + sign, x.lays(0), -4);
        }
    }

    private static void setLargerFiles() {
        for (int q = 3; q <= 6; q++) {
            QuotientFile x = new QuotientFile();
            x.shape(14, Due.PLAIN_14);
            for (int i = 3; i < q; i++) {
                x.doubles(0);
            }
            int bits = 14 - q + 3;
            int last = (1 << q) - 1;
            int at = last * bits;
            x.slot(1, 0);
            // The mark of the last slot's home alone: a print with remainder 0 there.
            int high = at % 64 >= 32 ? 1 << (at % 64 - 32) : 0;
            int low = at % 64 < 32 ? 1 << at % 64 : 0;
            Due.is("sets the last slot of Q " + q, x.sets(0, at / 64, high, low), 1);
            Due.prints("sets the last slot of Q " + q, x, 0, last << (14 - q));
            Due.is("Q stays", x.count(0, 2), q);
            Due.is("sets the last slot of Q " + q, x.sets(0, at / 64, high, low), -2);
            Due.is("sets slot 0 too", x.sets(0, 0, 0, 8 * 5 + 1), 2);
            Due.prints("sets slot 0 too", x, 0, 5, last << (14 - q));
        }
    }
}
