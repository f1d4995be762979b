/** Promises 8 to 16: the passes and what the books have of them. */
public final class BooksTest {
    private static final int MIN = Integer.MIN_VALUE;
    private static final int MAX = Integer.MAX_VALUE;

    public static void main(String[] args) {
        Check c = new Check("BooksTest");
        HoodBook x = Check.opened("book lines 2 rows 2;mix hood*10+line;");
        empty(c, x);
        x.pass(5, 10, 0);
        x.pass(3, 60, 1);
        x.pass(5, 99, 0);
        x.pass(7, 49, 1);
        x.pass(3, 50, 1);
        passes(c, x);
        bookOfAll(c, x);
        booksOfGates(c, x);
        wrongCalls(c, x);
        leasts(c);
        runs(c);
        oftens(c);
        rowsAndBits(c);
        bins(c);
        signs(c);
        lots(c);
        otherCoin(c);
        c.finish();
    }

    private static void empty(Check c, HoodBook x) {
        for (int book = 0; book < 3; book++) {
            c.due("passed", x.passed(0, 0), -1);
            c.due("least", x.least(book, 0), -1);
            c.due("run", x.run(book), -1);
            c.due("often", x.often(book, 0, 0), -1);
            c.due("crossed", x.crossed(book, 1, 1), 0);
            c.due("bit", x.bit(book, 15), 0);
            c.due("bin", x.bin(book, 1), 0);
            c.due("sign", x.sign(book, 0), -1);
        }
        c.due("lot", x.lot(0), -1);
    }

    private static void passes(Check c, HoodBook x) {
        c.dueRow("passed 0", k -> x.passed(k, 0), 5, 3, 5, 7, 3, -1);
        c.dueRow("passed 1", k -> x.passed(k, 1), 10, 60, 99, 49, 50, -1);
        c.dueRow("passed 2", k -> x.passed(k, 2), 0, 1, 0, 1, 1, -1);
        c.due("passed(-1, 0)", x.passed(-1, 0), -1);
        c.due("passed(0, 3)", x.passed(0, 3), -1);
        c.due("passed(0, -1)", x.passed(0, -1), -1);
        c.due("passed(max, 0)", x.passed(MAX, 0), -1);
        c.due("passed(min, 0)", x.passed(MIN, 0), -1);
    }

    private static void bookOfAll(Check c, HoodBook x) {
        c.dueRow("least", k -> x.least(2, k), 30, 50, -1);
        c.due("run", x.run(2), 0);
        c.dueRow("often hood", k -> x.often(2, k, 0), 5, 3, -1);
        c.dueRow("often number", k -> x.often(2, k, 1), 1, 1, -1);
        c.dueRow("crossed 0", k -> x.crossed(2, 0, k), 5, 0, -1);
        c.dueRow("crossed 1", k -> x.crossed(2, 1, k), 0, 5, -1);
        c.dueRow("crossed 2", k -> x.crossed(2, 2, k), -1, -1);
        c.dueRow("bit", k -> x.bit(2, k), 0, 0, 0, 1, 1, 0, 0, 1, 1, 0, 0, 1, 1, 0, 0, 0, -1);
        c.dueRow("bin", k -> x.bin(2, k), 2, 3, -1);
        c.dueRow("sign", k -> x.sign(2, k), 30, 31, -1);
    }

    private static void booksOfGates(Check c, HoodBook x) {
        c.dueRow("least", k -> x.least(0, k), 50, -1);
        c.dueRow("least", k -> x.least(1, k), 30, 70, -1);
        c.dueRow("often hood", k -> x.often(0, k, 0), 5, -1);
        c.dueRow("often number", k -> x.often(0, k, 1), 2, -1);
        c.dueRow("often hood", k -> x.often(1, k, 0), 3, 7, -1);
        c.dueRow("often number", k -> x.often(1, k, 1), 2, 1, -1);
        c.dueRow("crossed", k -> x.crossed(0, 0, k), 2, 0, -1);
        c.dueRow("crossed", k -> x.crossed(1, 1, k), 0, 3, -1);
        c.dueRow("bit", k -> x.bit(0, k), 0, 0, 0, 0, 0, 0, 0, 1, 1, 0, 0, 0, 0, 0, 0, 0, -1);
        c.dueRow("bit", k -> x.bit(1, k), 0, 0, 0, 1, 1, 0, 0, 0, 0, 0, 0, 1, 1, 0, 0, 0, -1);
        c.dueRow("bin", k -> x.bin(0, k), 1, 1, -1);
        c.dueRow("bin", k -> x.bin(1, k), 1, 2, -1);
        c.dueRow("sign", k -> x.sign(0, k), 50, 51, -1);
        c.dueRow("sign", k -> x.sign(1, k), 30, 31, -1);
    }

    private static void wrongCalls(Check c, HoodBook x) {
        for (int bad : new int[] {-1, 3, MIN, MAX}) {
            c.due("least", x.least(bad, 0), -1);
            c.due("run", x.run(bad), -1);
            c.due("often", x.often(bad, 0, 0), -1);
            c.due("crossed", x.crossed(bad, 0, 0), -1);
            c.due("bit", x.bit(bad, 3), -1);
            c.due("bin", x.bin(bad, 0), -1);
            c.due("sign", x.sign(bad, 0), -1);
            c.due("often what", x.often(2, 0, bad), -1);
            c.due("crossed row", x.crossed(2, bad, 0), -1);
        }
        for (int bad : new int[] {-1, MIN, MAX, 72}) {
            c.due("least", x.least(2, bad), -1);
            c.due("often", x.often(2, bad, 0), -1);
            c.due("crossed", x.crossed(2, 0, bad), -1);
            c.due("bit", x.bit(2, bad), -1);
            c.due("bin", x.bin(2, bad), -1);
            c.due("sign", x.sign(2, bad), -1);
            c.due("lot", x.lot(bad), -1);
        }
        c.due("often what 2", x.often(2, 0, 2), -1);
        HoodBook none = new HoodBook();
        c.due("crossed without a night", none.crossed(0, 0, 0), -1);
        c.due("bit without a night", none.bit(0, 0), -1);
        c.due("bin without a night", none.bin(0, 0), -1);
    }

    private static void leasts(Check c) {
        HoodBook x = Check.opened("book lines 3 rows 1;mix 900-hood/2*100;");
        int[] hoods = {2, 3, 4, 2, 10, 0, 6, 11};
        for (int hood : hoods) {
            x.pass(hood, 0, 0);
        }
        // 800 800 700 800 400 900 600 400: unlike ones alone count.
        c.dueRow("least", k -> x.least(2, k), 400, 600, 700, -1);
        HoodBook nine = Check.opened("book lines 9 rows 1;mix hood;");
        for (int hood = 20; hood > 5; hood--) {
            nine.pass(hood, 0, 1);
        }
        c.dueRow("least of nine", k -> nine.least(1, k), 6, 7, 8, 9, 10, 11, 12, 13, 14, -1);
    }

    private static void runs(Check c) {
        HoodBook x = Check.opened("book lines 1 rows 1;mix hood*8*line+(1-line)*7;");
        // In line 1 it is 8 times the hood.
        x.pass(1, 0, 0);
        c.due("run of 8", x.run(2), 3);
        x.pass(2, 0, 0);
        c.due("run of 16", x.run(2), 4);
        x.pass(3, 0, 0);
        c.due("run of 24", x.run(2), 4);
        x.pass(63, 0, 1);
        c.due("run of 504", x.run(1), 3);
        x.pass(0, 0, 1);
        c.due("run of 0", x.run(1), 10);
        c.due("run of all", x.run(2), 10);
        c.due("run of gate 0", x.run(0), 4);
        HoodBook y = Check.opened("book lines 1 rows 1;mix hood*512;");
        y.pass(1, 0, 0);
        c.due("run of 512", y.run(2), 9);
    }

    private static void oftens(Check c) {
        HoodBook x = Check.opened("book lines 1 rows 1;");
        x.pass(1, 0, 0);
        c.due("one", x.often(2, 0, 0), 1);
        x.pass(2, 0, 0);
        c.due("one less, empty", x.often(2, 0, 0), -1);
        c.due("one less, empty", x.often(2, 0, 1), -1);
        x.pass(3, 0, 0);
        c.due("another", x.often(2, 0, 0), 3);
        x.pass(3, 0, 0);
        c.due("its number", x.often(2, 0, 1), 2);
        x.pass(1, 0, 0);
        c.due("its hood", x.often(2, 0, 0), 3);
        c.due("its number", x.often(2, 0, 1), 1);
        HoodBook y = Check.opened("book lines 3 rows 1;");
        for (int hood : new int[] {8, 9, 9, 7, 6, 5, 7, 9}) {
            y.pass(hood, 0, 0);
        }
        // 8 9:2 7, then 6: only 9:1 is left, then 5 at place 0, 7 at place 2.
        c.dueRow("often hood", k -> y.often(2, k, 0), 5, 9, 7, -1);
        c.dueRow("often number", k -> y.often(2, k, 1), 1, 2, 1, -1);
    }

    private static void rowsAndBits(Check c) {
        HoodBook x = Check.opened("book lines 4 rows 3;mix hood*line;");
        x.pass(1, 0, 0);
        x.pass(3, 0, 0);
        c.dueRow("line 2", k -> x.crossed(0, 0, k), 0, 0, 2, 0, -1);
        c.dueRow("line 3", k -> x.crossed(0, 1, k), 0, 1, 0, 1, -1);
        c.dueRow("line 4", k -> x.crossed(0, 2, k), 2, 0, 0, 0, -1);
        int[] want = new int[33];
        want[5] = 1;
        want[6] = 1;
        want[15] = 1;
        want[18] = 1;
        want[32] = -1;
        c.dueRow("bit", k -> x.bit(0, k), want);
        HoodBook nine = Check.opened("book lines 9 rows 1;mix hood*11+5;");
        nine.pass(6, 0, 0);
        c.due("bit 71", nine.bit(2, 71), 1);
        nine.pass(7, 0, 0);
        c.due("bit 82 modulo 72", nine.bit(2, 10), 1);
        c.due("bit 72", nine.bit(2, 72), -1);
    }

    private static void bins(Check c) {
        HoodBook x = Check.opened("book lines 3 rows 1;");
        for (int gift : new int[] {0, 33, 34, 66, 67, 99, 99}) {
            x.pass(0, gift, 0);
        }
        c.dueRow("bin", k -> x.bin(0, k), 2, 2, 3, -1);
        HoodBook nine = Check.opened("book lines 9 rows 1;");
        nine.pass(0, 99, 0);
        nine.pass(0, 88, 0);
        nine.pass(0, 89, 0);
        c.dueRow("bin of nine", k -> nine.bin(2, k), 0, 0, 0, 0, 0, 0, 0, 1, 2, -1);
    }

    private static void signs(Check c) {
        HoodBook x = Check.opened("book lines 9 rows 1;mix hood*(4-line)+100;");
        x.pass(2, 0, 0);
        x.pass(5, 0, 0);
        c.dueRow("sign", k -> x.sign(2, k), 108, 106, 104, 102, 100, 95, 90, 85, 80, -1);
        c.due("sign of gate 1", x.sign(1, 0), -1);
        x.pass(2, 0, 1);
        c.dueRow("sign of gate 1", k -> x.sign(1, k), 108, 106, 104, 102, 100, 98, 96, 94, 92, -1);
    }

    private static void lots(Check c) {
        HoodBook x = Check.opened("book lines 4 rows 1;");
        long seed = 1;
        int[] lots = new int[4];
        for (int n = 1; n <= 60; n++) {
            int hood = n * 7 % 64;
            x.pass(hood, 0, n % 2);
            for (int line = 0; line < 4; line++) {
                seed = (1103515245L * seed + 12345L) % 2147483648L;
                lots[line] = seed / 64 % n == 0 ? hood : lots[line];
                c.due("lot " + line + " behind " + n, x.lot(line), lots[line]);
            }
        }
        c.due("lot(4)", x.lot(4), -1);
        c.due("lot(-1)", x.lot(-1), -1);
        c.due("without a night", new HoodBook().lot(0), -1);
    }

    private static void otherCoin(Check c) {
        HoodBook x = Check.opened("book lines 2 rows 1;mix hood+coin*10;");
        x.pass(1, 0, 0);
        x.pass(2, 0, 1);
        c.dueRow("least", k -> x.least(2, k), 1, 2, -1);
        x.toss(3);
        c.dueRow("least by the coin of now", k -> x.least(2, k), 31, 32, -1);
        c.dueRow("sign by the coin of now", k -> x.sign(1, k), 32, 32, -1);
        c.due("crossed of 31", x.crossed(0, 0, 1), 1);
        c.due("bit of 31", x.bit(0, 15), 1);
        x.pass(3, 0, 0);
        x.undo();
        x.undo();
        c.dueRow("least again", k -> x.least(2, k), 1, 2, -1);
        c.due("bit of 31", x.bit(0, 15), 0);
    }
}
