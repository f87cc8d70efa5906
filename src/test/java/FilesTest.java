/** Promises 25 to 38: doubles to row. */
public final class FilesTest {
    public static void main(String[] args) {
        doublesAndHalves();
        mergesTold();
        mergesByLoad();
        mergesWithoutRoom();
        spillsTold();
        spillsWithoutRoom();
        bothTold();
        partsTold();
        keepsTold();
        clearsTold();
        commonTold();
        fullTold();
        countsTold();
        signsTold();
        endTold();
        rowTold();
        Due.finish();
    }

    private static QuotientFile plain10() {
        QuotientFile x = new QuotientFile();
        x.shape(10, Due.PLAIN_10);
        return x;
    }

    private static void doublesAndHalves() {
        QuotientFile x = plain10();
        Due.putAll(x, 0, 1, 2, 3, 1000);
        Due.is("halves(0) of Q 3", x.halves(0), -2);
        Due.is("doubles(0)", x.doubles(0), 16);
        Due.is("doubles(0)", x.doubles(0), 32);
        Due.is("doubles(0)", x.doubles(0), 64);
        Due.is("doubles(0)", x.doubles(0), -2);
        Due.prints("doubled", x, 0, 1, 2, 3, 1000);
        Due.is("the other stays", x.count(1, 1), 8);
        Due.is("halves(0)", x.halves(0), 32);
        Due.is("halves(0)", x.halves(0), 16);
        Due.is("halves(0)", x.halves(0), 8);
        Due.is("halves(0)", x.halves(0), -2);
        Due.prints("halved", x, 0, 1, 2, 3, 1000);
        Due.row("the row stays", x, 7);
        Due.is("doubles(2)", x.doubles(2), -1);
        Due.is("halves(2)", x.halves(2), -1);
        Due.is("halves(-1)", x.halves(-1), -1);
        Due.putAll(x, 0, 4, 5, 6, 7);
        Due.is("8 prints by puts", x.count(0, 1), 16);
        Due.is("8 prints of 8 slots", x.halves(0), -5);
        x.takes(0, 4);
        Due.is("7 prints of 8 slots", x.halves(0), 8);
        QuotientFile y = Due.plain6();
        Due.is("P 6: doubles(1)", y.doubles(1), 16);
        Due.is("P 6: doubles(1)", y.doubles(1), 32);
        Due.is("P 6: doubles(1)", y.doubles(1), -2);
        QuotientFile z = new QuotientFile();
        z.shape(7, 1);
        z.doubles(1);
        z.doubles(1);
        Due.is("P 7: doubles(1)", z.doubles(1), 64);
        Due.is("P 7: doubles(1)", z.doubles(1), -2);
    }

    private static void mergesTold() {
        QuotientFile x = plain10();
        Due.is("merges() of none", x.merges(), -2);
        Due.row("merges() of none", x);
        Due.putAll(x, 0, 1, 500, 1000);
        Due.is("merges() of an empty file 1", x.merges(), -2);
        Due.putAll(x, 1, 500, 2, 1001);
        x.doubles(1);
        Due.is("merges()", x.merges(), 3);
        Due.row("merges()", x, 8, 6);
        Due.prints("merges()", x, 0, 1, 2, 500, 500, 1000, 1001);
        Due.prints("merges()", x, 1);
        Due.is("Q of file 1 stays", x.count(1, 2), 4);
        x.puts(1, 7);
        Due.is("merges() once more", x.merges(), 1);
        Due.row("merges() once more", x, 16, 7);
        x.takes(0, 7);
        x.puts(1, 8);
        x.doubles(0);
        Due.is("merges(): Q is not less", x.merges(), 1);
        Due.row("merges(): Q is not less", x, 32, 7);
    }

    private static void mergesByLoad() {
        // PRINTS together, SLOTS due at LOAD 75.
        int[][] due = {{6, 8}, {7, 16}, {12, 16}, {13, 32}, {24, 32}, {25, 64}, {48, 64}, {49, 64}, {63, 64}};
        for (int[] d : due) {
            QuotientFile x = plain10();
            for (int i = 1; i < d[0]; i++) {
                x.puts(1, i * 16);
            }
            x.puts(0, 5);
            Due.is("merges() of " + d[0], x.merges(), d[0] - 1);
            Due.row("merges() of " + d[0], x, d[1], d[0]);
        }
    }

    private static void mergesWithoutRoom() {
        QuotientFile x = Due.plain6();
        for (int i = 0; i < 16; i++) {
            x.puts(0, i);
            x.puts(1, i);
        }
        x.nth(0, 0);
        Due.is("32 prints of 32 slots", x.merges(), -5);
        Due.row("32 prints of 32 slots", x, 0);
        Due.is("file 0 stays", x.count(0, 0), 16);
        Due.is("file 1 stays", x.count(1, 0), 16);
        x.takes(1, 0);
        Due.is("31 prints of 32 slots", x.merges(), 15);
        Due.row("31 prints of 32 slots", x, 32, 31);
        Due.is("merges() then", x.merges(), -2);
    }

    private static void spillsTold() {
        QuotientFile x = plain10();
        for (int i = 1; i <= 6; i++) {
            Due.is("spills(" + i + ")", x.spills(i), 0);
            Due.row("spills(" + i + ")", x, i, 0);
        }
        Due.is("spills(7)", x.spills(7), 1);
        Due.row("spills(7)", x, 1, 6);
        Due.prints("spills(7)", x, 0, 7);
        Due.prints("spills(7)", x, 1, 1, 2, 3, 4, 5, 6);
        Due.is("slots of file 0", x.count(0, 1), 8);
        Due.is("slots of file 1", x.count(1, 1), 8);
        for (int i = 8; i <= 12; i++) {
            Due.is("spills(" + i + ")", x.spills(i), 0);
        }
        Due.is("spills(13)", x.spills(13), 1);
        Due.row("spills(13)", x, 1, 12);
        Due.is("slots of file 1", x.count(1, 1), 16);
        x.doubles(0);
        for (int i = 14; i <= 24; i++) {
            x.spills(i);
        }
        Due.row("spills(24)", x, 12, 12);
        Due.is("spills(25)", x.spills(25), 1);
        Due.row("spills(25)", x, 1, 24);
        Due.is("slots of file 0 stay", x.count(0, 1), 16);
        Due.is("slots of file 1", x.count(1, 1), 32);
        Due.is("spills(-1)", x.spills(-1), -1);
        Due.is("spills(100000)", x.spills(100000), -1);
        Due.row("refused spills", x, 1, 24);
    }

    private static void spillsWithoutRoom() {
        QuotientFile x = Due.plain6();
        for (int i = 0; i < 31; i++) {
            x.puts(0, i);
        }
        Due.is("spills(40) of a full file", x.spills(40), 1);
        Due.row("spills(40) of a full file", x, 1, 31);
        Due.is("slots of file 0", x.count(0, 1), 32);
        for (int i = 1; i < 31; i++) {
            Due.is("spills by the greatest Q", x.spills(i), 0);
        }
        Due.is("spills(41)", x.spills(41), -5);
        Due.is("spills(100000)", x.spills(100000), -1);
        Due.row("no room", x, 31, 31);
        Due.is("no room: has(0, 41)", x.has(0, 41), 0);
        QuotientFile y = Due.plain6();
        for (int i = 0; i < 26; i++) {
            y.puts(1, i);
        }
        for (int i = 0; i < 6; i++) {
            y.spills(i);
        }
        Due.is("32 prints of 32 slots", y.spills(6), -5);
        y.takes(1, 0);
        Due.is("31 prints of 32 slots", y.spills(6), 1);
        Due.row("31 prints of 32 slots", y, 1, 31);
    }

    private static void bothTold() {
        QuotientFile x = Due.plain6();
        Due.putAll(x, 0, 9, 9, 10);
        Due.putAll(x, 1, 9, 11, 12);
        Due.is("both(9)", x.both(9), 3);
        Due.row("both(9)", x, 3, 0);
        Due.is("both(10)", x.both(10), 1);
        Due.row("both(10)", x, 3, 0);
        Due.is("both(11)", x.both(11), 1);
        Due.row("both(11)", x, 3, 3);
        Due.is("both(75)", x.both(75), 1);
        Due.is("both(8)", x.both(8), 0);
        Due.row("both(8)", x, 1, 1);
        Due.is("both(40)", x.both(40), 0);
        Due.row("both(40)", x, 0, 0);
        x.both(8);
        Due.is("both(-1)", x.both(-1), -1);
        Due.is("both(100000)", x.both(100000), -1);
        Due.row("refused both", x, 1, 1);
    }

    private static void partsTold() {
        QuotientFile x = Due.plain6();
        Due.putAll(x, 0, 1, 24, 25, 25, 33, 56);
        x.doubles(0);
        x.nth(0, 0);
        Due.is("parts(-1)", x.parts(-1), -1);
        Due.is("parts(64)", x.parts(64), -1);
        Due.is("parts(57)", x.parts(57), -2);
        Due.is("parts(63)", x.parts(63), -2);
        Due.is("parts(25)", x.parts(25), 4);
        Due.row("parts leaves the row", x, 0);
        Due.prints("parts(25)", x, 0, 1, 24);
        Due.prints("parts(25)", x, 1, 25, 25, 33, 56);
        Due.is("Q of file 0", x.count(0, 2), 4);
        Due.is("Q of file 1", x.count(1, 2), 4);
        Due.is("parts(24)", x.parts(24), -3);
        Due.is("parts(25) then", x.parts(25), -2);
        Due.is("parts(64) then", x.parts(64), -1);
        Due.prints("refused parts", x, 0, 1, 24);
        x.clears(1);
        x.puts(1, 5);
        Due.is("parts(24) with one print in file 1", x.parts(24), -3);
        x.clears(1);
        x.doubles(1);
        x.doubles(1);
        Due.is("parts(0)", x.parts(0), 2);
        Due.is("Q of file 1 is less then", x.count(1, 2), 4);
        Due.prints("parts(0)", x, 0);
        Due.prints("parts(0)", x, 1, 1, 24);
        Due.is("Q of file 0 stays", x.count(0, 2), 4);
    }

    private static void keepsTold() {
        QuotientFile x = Due.plain6();
        Due.is("keeps(true) of none", x.keeps(true), -2);
        Due.is("keeps(false) of none", x.keeps(false), -2);
        Due.putAll(x, 0, 1, 1, 1, 2, 3, 3);
        Due.putAll(x, 1, 1, 1, 3, 3, 3, 9);
        x.doubles(0);
        x.nth(0, 0);
        Due.is("keeps(true)", x.keeps(true), 2);
        Due.prints("keeps(true)", x, 0, 1, 1, 3, 3);
        Due.prints("keeps(true)", x, 1, 1, 1, 3, 3, 3, 9);
        Due.is("Q stays", x.count(0, 2), 4);
        Due.is("keeps(true) again", x.keeps(true), -2);
        x.clears(0);
        Due.putAll(x, 0, 1, 1, 1, 2, 3, 3);
        x.nth(0, 0);
        Due.is("keeps(false)", x.keeps(false), 4);
        Due.row("keeps leaves the row", x, 0);
        Due.prints("keeps(false)", x, 0, 1, 2);
        Due.is("keeps(false) again", x.keeps(false), 1);
        Due.prints("keeps(false) again", x, 0, 2);
        Due.is("keeps(false) at last", x.keeps(false), -2);
        x.clears(1);
        Due.is("keeps(true) of an empty file 1", x.keeps(true), 1);
        Due.prints("keeps(true) of an empty file 1", x, 0);
    }

    private static void clearsTold() {
        QuotientFile x = plain10();
        Due.is("clears(0) of none", x.clears(0), 0);
        Due.putAll(x, 0, 1, 1, 2);
        x.puts(1, 5);
        x.doubles(0);
        Due.is("clears(0)", x.clears(0), 3);
        Due.row("clears leaves the row", x, 0, 1);
        Due.is("Q", x.count(0, 2), 3);
        Due.prints("clears(0)", x, 0);
        Due.prints("clears(0)", x, 1, 5);
        Due.is("clears(1)", x.clears(1), 1);
        Due.is("clears(2)", x.clears(2), -1);
        Due.is("clears(-1)", x.clears(-1), -1);
    }

    private static void commonTold() {
        QuotientFile x = Due.plain6();
        Due.is("common() of none", x.common(), 0);
        Due.row("common() of none", x, 0, 1, 1);
        Due.putAll(x, 0, 1, 1, 3);
        Due.is("common()", x.common(), 0);
        Due.row("common()", x, 0, 0, 1);
        Due.putAll(x, 1, 1, 1, 1, 3);
        Due.is("common() of a part", x.common(), 3);
        Due.row("common() of a part", x, 2, 1, 0);
        Due.putAll(x, 0, 1, 1);
        Due.is("common() the other way", x.common(), 4);
        Due.row("common() the other way", x, 2, 0, 1);
        x.takes(0, 1);
        Due.is("common() of like ones", x.common(), 4);
        Due.row("common() of like ones", x, 2, 1, 1);
        x.puts(0, 5);
        x.puts(1, 6);
        Due.is("common() of unlike ones", x.common(), 4);
        Due.row("common() of unlike ones", x, 2, 0, 0);
        Due.is("common changes nothing", x.count(0, 0), 5);
    }

    private static void fullTold() {
        for (int p = 6; p <= 14; p++) {
            QuotientFile x = new QuotientFile();
            x.shape(p, (1 << (32 - p)) + 1);
            x.load(95);
            int most = p == 6 ? 31 : 63;
            for (int n = 1; n <= most; n++) {
                x.puts(0, n);
                int slots = x.count(0, 1);
                Due.is("full of " + n, x.full(0), Float.floatToIntBits((float) n / slots));
                int like = 0;
                for (int key = 0; key < 1000; key++) {
                    int print = key & ((1 << p) - 1);
                    like += print >= 1 && print <= n ? 1 : 0;
                }
                Due.row("full of " + n, x, Double.doubleToLongBits((double) n / (1 << p)), like);
            }
        }
        QuotientFile y = new QuotientFile();
        y.shape(14, Due.PLAIN_14);
        Due.putAll(y, 0, 0, 999, 1000);
        y.full(0);
        Due.row("full: keys 0 to 999", y, Double.doubleToLongBits(3.0 / 16384), 2);
        QuotientFile x = Due.plain6();
        Due.putAll(x, 0, 5, 5, 5);
        Due.is("full of like ones", x.full(0), Float.floatToIntBits(0.375f));
        Due.row("full of like ones", x, Double.doubleToLongBits(1.0 / 64), 16);
        Due.is("full(1)", x.full(1), 0);
        Due.row("full(1)", x, 0, 0);
        Due.is("full(2)", x.full(2), -1);
        Due.is("full(-1)", x.full(-1), -1);
        Due.row("refused full", x, 0, 0);
    }

    private static void countsTold() {
        QuotientFile x = Due.plain6();
        x.load(95);
        Due.putAll(x, 0, 63, 62, 56, 1, 24, 25, 33);
        x.doubles(1);
        Due.text(x, "123");
        int[] due = {7, 8, 3, 4, 3, 5, 6, Due.PLAIN_6, 95, 2, 3};
        int[] ofOther = {0, 16, 4, 0, 0, 0, 6, Due.PLAIN_6, 95, 2, 3};
        for (int what = 0; what < due.length; what++) {
            Due.is("count(0, " + what + ")", x.count(0, what), due[what]);
            Due.is("count(1, " + what + ")", x.count(1, what), ofOther[what]);
            Due.is("count(2, " + what + ")", x.count(2, what), what < 6 ? -1 : due[what]);
            Due.is("count(-1, " + what + ")", x.count(-1, what), what < 6 ? -1 : due[what]);
        }
        Due.is("count(0, 11)", x.count(0, 11), -1);
        Due.is("count(0, -1)", x.count(0, -1), -1);
        Due.is("count(0, MAX)", x.count(0, Integer.MAX_VALUE), -1);
        Due.is("count(2, 11)", x.count(2, 11), -1);
    }

    private static void signsTold() {
        QuotientFile x = Due.plain6();
        for (int i = 1; i <= 20; i++) {
            Due.is("sign number " + i, x.sign(0x2c2c2c2c), 4 * i);
        }
        Due.is("84 signs", x.sign(0x2c2c2c2c), -1);
        Due.is("the text stays", x.count(0, 10), 80);
        x.end(77);
        Due.is("81 signs", x.sign(0), -1);
        Due.is("the text stays", x.count(0, 10), 77);
        x.end(76);
        Due.is("80 signs", x.sign(0), 80);
        x.end(0);
        x.sign('1' << 24 | '2' << 16 | ',' << 8 | '3');
        x.sign('4' << 24 | ',' << 16 | '5' << 8 | '6');
        Due.is("keys in order", x.keys(0), 3);
        Due.prints("keys in order", x, 0, 12, 34, 56);
        x.sign(0xffffffff);
        Due.is("a byte above 127", x.keys(0), -1);
        x.sign('1' << 24 | 0xb1 << 16);
        x.end(2);
        Due.is("a byte that is no digit", x.keys(0), -2);
    }

    private static void endTold() {
        QuotientFile x = Due.plain6();
        Due.is("end(0)", x.end(0), true);
        Due.is("end(1)", x.end(1), false);
        Due.is("end(-1)", x.end(-1), false);
        x.sign('1' << 24 | '2' << 16 | ',' << 8 | '3');
        Due.is("end(5)", x.end(5), false);
        Due.is("end(MAX)", x.end(Integer.MAX_VALUE), false);
        Due.is("end(MIN)", x.end(Integer.MIN_VALUE), false);
        Due.is("signs", x.count(0, 10), 4);
        Due.is("end(4)", x.end(4), true);
        Due.is("signs", x.count(0, 10), 4);
        Due.is("end(1)", x.end(1), true);
        Due.is("signs", x.count(0, 10), 1);
        x.sign('7' << 24);
        x.end(2);
        Due.is("keys(0)", x.keys(0), 1);
        Due.prints("keys(0)", x, 0, 17);
        Due.row("end leaves the row", x, 2);
    }

    private static void rowTold() {
        QuotientFile x = Due.plain6();
        int[] none = {0, -1, 1, 64, Integer.MAX_VALUE, Integer.MIN_VALUE};
        for (int i : none) {
            Due.noNumber("no row", x, i);
        }
        x.puts(0, 9);
        Due.is("row(0)", x.row(0), 1);
        Due.is("row(1)", x.row(1), 1);
        Due.noNumber("puts", x, 2);
        Due.noNumber("puts", x, -1);
        x.best(0);
        Due.row("a longer row", x, 1, 1, 1, -1);
        x.nth(0, 0);
        Due.row("a shorter row", x, 1);
    }
}
