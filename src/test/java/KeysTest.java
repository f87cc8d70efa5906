/** Promises 1 to 10: a new object, shape, load, print, puts, takes, has, twin, keys, wrongs. */
public final class KeysTest {
    public static void main(String[] args) {
        newObject();
        shapes();
        loads();
        prints();
        putsOfLikeAndUnlike();
        putsGoingRound();
        putsDoubling();
        putsWithoutRoom();
        takesOut();
        hasLooked();
        twins();
        keysDone();
        keysThatCantBe();
        keysWithWrongSigns();
        wrongsTold();
        Due.finish();
    }

    private static void newObject() {
        QuotientFile x = new QuotientFile();
        for (int file = 0; file < 2; file++) {
            Due.is("new: prints", x.count(file, 0), 0);
            Due.is("new: slots", x.count(file, 1), 8);
            Due.is("new: Q", x.count(file, 2), 3);
            Due.is("new: occupied", x.count(file, 3), 0);
        }
        Due.is("new: P", x.count(0, 6), 10);
        Due.is("new: MULT", x.count(0, 7), -1640531527);
        Due.is("new: LOAD", x.count(0, 8), 75);
        Due.is("new: signs", x.count(0, 10), 0);
        Due.row("new", x);
        Due.is("NONE", QuotientFile.NONE, -1);
        QuotientFile y = new QuotientFile();
        x.puts(0, 1);
        Due.is("another object", y.count(0, 0), 0);
    }

    private static void shapes() {
        QuotientFile x = new QuotientFile();
        x.load(60);
        x.doubles(0);
        x.doubles(1);
        x.puts(0, 1);
        x.puts(1, 2);
        Due.text(x, "12");
        int[][] refused = {{5, 1}, {15, 1}, {6, 2}, {6, 0}, {14, Integer.MIN_VALUE}, {-1, 3},
            {Integer.MAX_VALUE, 1}, {Integer.MIN_VALUE, 1}};
        for (int[] r : refused) {
            Due.is("shape(" + r[0] + ", " + r[1] + ")", x.shape(r[0], r[1]), -1);
        }
        Due.is("refused: prints", x.count(0, 0), 1);
        Due.is("refused: P", x.count(0, 6), 10);
        Due.is("shape(6, 3)", x.shape(6, 3), 10);
        Due.row("shape leaves the row", x, x.row(0), 1);
        for (int file = 0; file < 2; file++) {
            Due.is("shaped: prints", x.count(file, 0), 0);
            Due.is("shaped: Q", x.count(file, 2), 3);
        }
        Due.is("shaped: P", x.count(0, 6), 6);
        Due.is("shaped: MULT", x.count(0, 7), 3);
        Due.is("shaped: LOAD", x.count(0, 8), 60);
        Due.is("shaped: signs", x.count(0, 10), 2);
        Due.is("shape(14, -1)", x.shape(14, -1), 6);
        Due.is("shape(14, MAX)", x.shape(14, Integer.MAX_VALUE), 14);
        Due.is("MULT", x.count(0, 7), Integer.MAX_VALUE);
    }

    private static void loads() {
        QuotientFile x = new QuotientFile();
        Due.is("load(49)", x.load(49), -1);
        Due.is("load(96)", x.load(96), -1);
        Due.is("load(MIN)", x.load(Integer.MIN_VALUE), -1);
        Due.is("load(MAX)", x.load(Integer.MAX_VALUE), -1);
        Due.is("load(75)", x.load(75), -2);
        Due.is("load(50)", x.load(50), 75);
        Due.is("load(50)", x.load(50), -2);
        Due.is("load(95)", x.load(95), 50);
        Due.is("LOAD", x.count(0, 8), 95);
        Due.row("load", x);
    }

    private static void prints() {
        QuotientFile x = new QuotientFile();
        Due.is("print(0, 1)", x.print(0, 1), 632);
        Due.row("print(0, 1)", x, 4, 120);
        int last = (int) (((99999L * -1640531527L) & 0xffffffffL) >> 22);
        Due.is("print(1, 99999)", x.print(1, 99999), last);
        Due.row("print(1, 99999)", x, last / 128, last % 128);
        Due.is("print(0, 0)", x.print(0, 0), 0);
        Due.row("print(0, 0)", x, 0, 0);
        x.shape(6, Due.PLAIN_6);
        x.doubles(1);
        Due.is("print(0, 45)", x.print(0, 45), 45);
        Due.row("print(0, 45)", x, 5, 5);
        Due.is("print(1, 45)", x.print(1, 45), 45);
        Due.row("print(1, 45)", x, 11, 1);
        Due.is("print(1, 99999)", x.print(1, 99999), 31);
        Due.row("print(1, 99999)", x, 7, 3);
        Due.is("print(0, -1)", x.print(0, -1), -1);
        Due.is("print(0, 100000)", x.print(0, 100000), -1);
        Due.is("print(2, 1)", x.print(2, 1), -1);
        Due.is("print(-1, 1)", x.print(-1, 1), -1);
        Due.row("refused print", x, 7, 3);
    }

    private static void putsOfLikeAndUnlike() {
        QuotientFile x = Due.plain6();
        Due.is("puts(0, 9)", x.puts(0, 9), 8);
        Due.row("first 9", x, 1, 1);
        Due.is("puts(0, 9)", x.puts(0, 9), 8);
        Due.row("second 9", x, 2, 2);
        Due.is("puts(0, 73)", x.puts(0, 73), 8);
        Due.row("third print 9", x, 3, 3);
        Due.is("puts(0, 8)", x.puts(0, 8), 8);
        Due.row("8 ahead of them", x, 1, 4);
        Due.is("puts(0, 10)", x.puts(0, 10), 8);
        Due.row("10 behind them", x, 5, 5);
        Due.is("puts(0, 16)", x.puts(0, 16), 8);
        Due.row("16 behind its home", x, 6, 6);
        Due.prints("puts", x, 0, 8, 9, 9, 9, 10, 16);
        Due.is("puts(0, 63)", x.puts(0, 63), 16);
        Due.row("63 by doubling", x, 15, 7);
        x.nth(0, 6);
        Due.is("puts(2, 1)", x.puts(2, 1), -1);
        Due.is("puts(-1, 1)", x.puts(-1, 1), -1);
        Due.is("puts(0, -1)", x.puts(0, -1), -1);
        Due.is("puts(0, 100000)", x.puts(0, 100000), -1);
        Due.row("refused puts", x, 15);
        Due.is("prints", x.count(0, 0), 7);
        Due.is("prints of the other", x.count(1, 0), 0);
    }

    private static void putsGoingRound() {
        QuotientFile x = Due.plain6();
        x.puts(1, 63);
        Due.row("63", x, 7, 1);
        x.puts(1, 63);
        Due.row("63 again", x, 0, 2);
        x.puts(1, 62);
        Due.row("62", x, 7, 3);
        x.puts(1, 0);
        Due.row("0 behind the greatest run", x, 2, 4);
        x.puts(1, 8);
        Due.row("8 behind the run of 0", x, 3, 5);
        x.puts(1, 63);
        Due.row("63 for the third time", x, 2, 6);
        Due.is("slot of 0", x.nth(1, 0), 0);
        Due.row("slot of 0", x, 3);
    }

    private static void putsDoubling() {
        // 50 of 100: 4 prints of 8 slots; 95 of 100: 7 of 8, 15 of 16, 30 of 32, 60 of 64.
        int[][] bounds = {{50, 4, 8, 16, 32}, {75, 6, 12, 24, 48}, {95, 7, 15, 30, 60}};
        for (int[] b : bounds) {
            QuotientFile x = new QuotientFile();
            x.load(b[0]);
            for (int n = 1; n <= 63; n++) {
                int slots = n <= b[1] ? 8 : n <= b[2] ? 16 : n <= b[3] ? 32 : 64;
                Due.is("LOAD " + b[0] + ": puts number " + n, x.puts(0, n), slots);
            }
            Due.is("LOAD " + b[0] + ": puts number 64", x.puts(0, 64), -5);
        }
        QuotientFile x = new QuotientFile();
        x.load(95);
        Due.putAll(x, 0, 1, 2, 3, 4, 5, 6, 7);
        x.load(50);
        Due.is("doubled just once", x.puts(0, 8), 16);
        Due.is("and then once more", x.puts(0, 9), 32);
    }

    private static void putsWithoutRoom() {
        QuotientFile x = Due.plain6();
        for (int n = 1; n <= 31; n++) {
            x.puts(0, 63);
        }
        Due.is("slots of P 6", x.count(0, 1), 32);
        Due.row("31 like ones", x, 29, 31);
        Due.is("puts(0, 5)", x.puts(0, 5), -5);
        Due.is("puts(0, 100000)", x.puts(0, 100000), -1);
        Due.row("no room", x, 29, 31);
        Due.is("has(0, 5)", x.has(0, 5), 0);
        x.takes(0, 63);
        Due.is("puts(0, 62)", x.puts(0, 62), 32);
        Due.row("room again", x, 31, 31);
    }

    private static void takesOut() {
        QuotientFile x = Due.plain6();
        Due.putAll(x, 0, 9, 9, 9, 10, 17);
        Due.is("takes(0, 73)", x.takes(0, 73), 2);
        Due.row("takes(0, 73)", x, 4);
        Due.is("takes(0, 9)", x.takes(0, 9), 1);
        Due.is("takes(0, 9)", x.takes(0, 9), 0);
        Due.row("takes the last 9", x, 2);
        Due.is("takes(0, 9)", x.takes(0, 9), -2);
        Due.is("takes(1, 10)", x.takes(1, 10), -2);
        Due.is("takes(2, 10)", x.takes(2, 10), -1);
        Due.is("takes(0, -1)", x.takes(0, -1), -1);
        Due.is("takes(0, 100000)", x.takes(0, 100000), -1);
        Due.row("refused takes", x, 2);
        Due.prints("takes", x, 0, 10, 17);
        Due.is("10 goes home", x.slot(0, 1), 2);
        Due.is("17 goes home", x.slot(0, 2), 1);
        Due.is("slot 3", x.slot(0, 3), -2);
        Due.putAll(x, 0, 1, 2, 3, 4, 5);
        Due.is("takes after doubling", x.takes(0, 5), 0);
        Due.is("slots stay", x.count(0, 1), 16);
    }

    private static void hasLooked() {
        QuotientFile x = Due.plain6();
        Due.is("has(0, 9)", x.has(0, 9), 0);
        Due.row("nothing", x, 0);
        Due.putAll(x, 0, 9, 11, 11, 13, 17);
        int[][] asked = {{8, 0, 1}, {9, 1, 2}, {10, 0, 2}, {11, 2, 4}, {12, 0, 4}, {13, 1, 4}, {14, 0, 4},
            {15, 0, 4}, {16, 0, 1}, {17, 1, 1}, {18, 0, 1}, {24, 0, 0}, {73, 1, 2}};
        for (int[] a : asked) {
            Due.is("has(0, " + a[0] + ")", x.has(0, a[0]), a[1]);
            Due.row("has(0, " + a[0] + ")", x, a[2]);
        }
        Due.is("has(1, 9)", x.has(1, 9), 0);
        x.has(0, 11);
        Due.is("has(2, 9)", x.has(2, 9), -1);
        Due.is("has(0, 100000)", x.has(0, 100000), -1);
        Due.is("has(0, -1)", x.has(0, -1), -1);
        Due.row("refused has", x, 4);
        x.takes(0, 11);
        Due.is("has(0, 11) then", x.has(0, 11), 1);
        Due.row("has(0, 11) then", x, 3);
    }

    private static void twins() {
        QuotientFile x = Due.plain6();
        Due.is("twin(0)", x.twin(0), 64);
        Due.is("twin(64)", x.twin(64), 0);
        Due.is("twin(31)", x.twin(31), 95);
        Due.is("twin(99999)", x.twin(99999), 31);
        Due.is("twin(-1)", x.twin(-1), -1);
        Due.is("twin(100000)", x.twin(100000), -1);
        x.shape(14, Due.PLAIN_14);
        Due.is("P 14: twin(5)", x.twin(5), -2);
        Due.is("P 14: twin(16389)", x.twin(16389), 5);
        Due.is("P 14: twin(16384 + 9999)", x.twin(26383), 9999);
        Due.is("P 14: twin(16384 + 10000)", x.twin(26384), -2);
        Due.is("P 14: twin(12000)", x.twin(12000), -2);
        Due.row("twin", x);
    }

    private static void keysDone() {
        QuotientFile x = Due.plain6();
        Due.text(x, "9,73,~9,00010,99999,0");
        Due.is("keys(0)", x.keys(0), 6);
        Due.row("keys(0)", x, 0, 4);
        Due.is("the text is empty", x.count(0, 10), 0);
        Due.prints("keys(0)", x, 0, 0, 9, 10, 31);
        Due.is("keys(0) of no text", x.keys(0), 0);
        Due.row("keys(0) of no text", x, 0, 4);
        Due.text(x, "1,1,1,1,1,1,1,1,1,1,1,1,1,1,1,1,1,1,1,1,1,1,1,1,1,1,1,1,1,1,1,1,1,1,1,1,1,1,1,~1");
        Due.is("keys(1) of 80 signs", x.keys(1), 31);
        Due.row("keys(1) of 80 signs", x, 1, 31);
        Due.is("slots", x.count(1, 1), 32);
    }

    private static void keysThatCantBe() {
        QuotientFile x = Due.plain6();
        Due.text(x, "1,2,~1,~1,3");
        Due.is("keys(0)", x.keys(0), 3);
        Due.row("keys(0)", x, 1, 1);
        Due.prints("keys(0)", x, 0, 2);
        Due.text(x, "~7");
        Due.is("keys(1)", x.keys(1), 0);
        Due.row("keys(1)", x, 1, 0);
    }

    private static void keysWithWrongSigns() {
        QuotientFile x = Due.plain6();
        x.puts(0, 9);
        String[] texts = {"123456", "~", "1,", ",", "1,,2", "~~1", "1~", "1,~", "a", "1 ", "1,2,x", "~,1",
            "12345,123456", "1,/", "1,:", "\u00ff", "1\u00b1"};
        int[] places = {5, 1, 2, 0, 2, 1, 1, 3, 0, 1, 4, 1, 11, 2, 2, 0, 1};
        for (int i = 0; i < texts.length; i++) {
            Due.text(x, texts[i]);
            Due.is("keys of " + texts[i], x.keys(0), -1 - places[i]);
            Due.is("keys of " + texts[i] + ": the text", x.count(0, 10), 0);
            Due.row("keys of " + texts[i], x, 1, 1);
        }
        Due.prints("nothing is done", x, 0, 9);
        Due.text(x, "1");
        Due.is("keys(2)", x.keys(2), -1);
        Due.is("keys(2): the text", x.count(0, 10), 0);
        Due.text(x, "1");
        Due.is("keys(-1)", x.keys(-1), -1);
        Due.is("keys(-1): the text", x.count(0, 10), 0);
        Due.row("refused keys", x, 1);
    }

    private static void wrongsTold() {
        QuotientFile x = Due.plain6();
        Due.text(x, "5,5,7");
        Due.is("wrongs of an empty file", x.wrongs(0), 0);
        Due.row("wrongs of an empty file", x, -1, 3);
        Due.is("wrongs: the text", x.count(0, 10), 0);
        Due.putAll(x, 0, 1, 2);
        String[] texts = {"1,2", "1,1,5,5,00002", "", "65", "99999", "1,2,65,961"};
        long[][] due = {{30, 65, 0}, {30, 65, 2}, {32, 1, 0}, {31, 1, 0}, {32, 1, 1}, {28, 66, 0}};
        for (int i = 0; i < texts.length; i++) {
            Due.text(x, texts[i]);
            Due.is("wrongs of " + texts[i], x.wrongs(0), due[i][0]);
            Due.row("wrongs of " + texts[i], x, due[i][1], due[i][2]);
        }
        String[] bad = {"~1", "1,~2", "1,", "123456", "x", "1,2\u0000"};
        int[] places = {0, 2, 2, 5, 0, 3};
        for (int i = 0; i < bad.length; i++) {
            Due.text(x, bad[i]);
            Due.is("wrongs of " + bad[i], x.wrongs(0), -1 - places[i]);
            Due.is("wrongs of " + bad[i] + ": the text", x.count(0, 10), 0);
        }
        Due.text(x, "1");
        Due.is("wrongs(2)", x.wrongs(2), -1);
        Due.is("wrongs(2): the text", x.count(0, 10), 0);
        Due.row("refused wrongs", x, 66, 0);
        Due.prints("wrongs changes nothing", x, 0, 1, 2);
        QuotientFile y = new QuotientFile();
        y.shape(14, Due.PLAIN_14);
        y.puts(0, 999);
        y.puts(0, 1000);
        Due.is("wrongs to 999", y.wrongs(0), 1);
        Due.row("wrongs to 999", y, 999, 0);
        y.puts(0, 0);
        Due.is("wrongs from 0", y.wrongs(0), 2);
        Due.row("wrongs from 0", y, 0, 0);
        Due.text(y, "7");
        Due.is("wrongs of one sign", y.wrongs(0), 2);
        Due.row("wrongs of one sign", y, 0, 1);
    }
}
