/** Promises 28 to 32: passes, nights, coins, undoing, the seed. */
public final class ActsTest {
    private static final int MIN = Integer.MIN_VALUE;
    private static final int MAX = Integer.MAX_VALUE;

    public static void main(String[] args) {
        Check c = new Check("ActsTest");
        passes(c);
        nights(c);
        nightsRefused(c);
        tosses(c);
        undoes(c);
        undoneLots(c);
        lastTwenty(c);
        seeds(c);
        c.finish();
    }

    private static void passes(Check c) {
        HoodBook x = new HoodBook();
        c.due("without a night", x.pass(0, 0, 0), -1);
        c.due("status(2)", x.status(2), 1);
        Check.open(x, "book lines 1 rows 1;");
        c.due("pass", x.pass(0, 0, 0), 1);
        c.due("pass", x.pass(63, 99, 1), 2);
        int[][] bad = {{-1, 0, 0}, {64, 0, 0}, {0, -1, 0}, {0, 100, 0}, {0, 0, -1}, {0, 0, 2},
            {MIN, 0, 0}, {MAX, 0, 0}, {0, MIN, 0}, {0, MAX, 0}, {0, 0, MIN}, {0, 0, MAX}};
        for (int[] b : bad) {
            c.due("pass(" + b[0] + ", " + b[1] + ", " + b[2] + ")", x.pass(b[0], b[1], b[2]), -1);
        }
        c.due("status(2)", x.status(2), 13);
        c.due("passes", x.has(5), 2);
        c.due("acts", x.has(7), 2);
        for (int k = 3; k <= 400; k++) {
            c.due("pass " + k, x.pass(k % 64, k % 100, k % 2), k);
        }
        c.due("pass 401", x.pass(0, 0, 0), -1);
        c.due("status(2)", x.status(2), 14);
        c.due("the 400th", x.passed(399, 0), 16);
    }

    private static void nights(Check c) {
        HoodBook x = Check.opened("book lines 2 rows 1;hoods 4 from 60 step 3 gives hood-turn*20 gate 1;"
            + "coin 4;hoods 3 from 5 step 0 gives 95+turn*3 gate 0;hoods 2 from 1 step 63 gives (turn+1)*7/2 gate 0;");
        c.due("coming", x.has(3), 9);
        c.due("night", x.night(), 9);
        c.dueRow("hoods", k -> x.passed(k, 0), 60, 63, 2, 5, 5, 5, 5, 1, 0, -1);
        c.dueRow("gifts", k -> x.passed(k, 1), 60, 43, 0, 0, 95, 98, 99, 3, 7, -1);
        c.dueRow("gates", k -> x.passed(k, 2), 1, 1, 1, 1, 0, 0, 0, 0, 0, -1);
        c.due("acts", x.has(7), 1);
        x.pass(7, 7, 1);
        c.due("night again", x.night(), 19);
        c.due("the first of it", x.passed(10, 0), 60);
        c.due("times", x.times(2, 5), 8);
        HoodBook y = Check.opened("book lines 1 rows 1;hoods 99 from 0 step 1 gives turn gate 0;");
        y.night();
        c.due("the 65th", y.passed(64, 0), 0);
        c.due("the 99th", y.passed(98, 0), 34);
        c.due("the 99th gave", y.passed(98, 1), 98);
    }

    private static void nightsRefused(Check c) {
        HoodBook x = new HoodBook();
        c.due("without a night", x.night(), -1);
        Check.open(x, "book lines 1 rows 1;mix 1;coin 2;");
        c.due("nobody", x.night(), -1);
        Check.open(x, "book lines 1 rows 1;hoods 99 from 1 step 0 gives 0 gate 0;hoods 99 from 1 step 0 gives 0 gate 0;");
        c.due("198", x.night(), 198);
        c.due("396", x.night(), 396);
        c.due("594", x.night(), -1);
        c.due("passes", x.has(5), 396);
        c.due("acts", x.has(7), 2);
        c.due("status(3)", x.status(3), 3);
        StringBuilder five = new StringBuilder("book lines 1 rows 1;");
        for (int k = 0; k < 5; k++) {
            five.append("hoods 80 from 1 step 0 gives 0 gate 0;");
        }
        Check.open(x, five.toString());
        x.pass(1, 1, 1);
        c.due("401", x.night(), -1);
        x.undo();
        c.due("400", x.night(), 400);
        Check.open(x, five + "hoods 1 from 1 step 0 gives 0 gate 0;");
        c.due("401 at once", x.night(), -1);
        c.due("coming", x.has(3), 401);
        c.due("status(3)", x.status(3), 5);
    }

    private static void tosses(Check c) {
        HoodBook x = new HoodBook();
        c.due("without a night", x.toss(1), false);
        Check.open(x, "book lines 1 rows 1;coin 5;");
        c.due("that it is", x.toss(5), false);
        c.due("toss(-1)", x.toss(-1), false);
        c.due("toss(100)", x.toss(100), false);
        c.due("toss(min)", x.toss(MIN), false);
        c.due("toss(max)", x.toss(MAX), false);
        c.due("status(2)", x.status(2), 6);
        c.due("acts", x.has(7), 0);
        c.due("toss(0)", x.toss(0), true);
        c.due("coin", x.has(4), 0);
        c.due("toss(99)", x.toss(99), true);
        c.due("coin", x.has(4), 99);
        c.due("acts", x.has(7), 2);
    }

    private static void undoes(Check c) {
        HoodBook x = new HoodBook();
        c.due("without a night", x.undo(), false);
        Check.open(x, "book lines 2 rows 1;hoods 3 from 1 step 1 gives 9 gate 0;mix hood+coin;");
        c.due("nothing yet", x.undo(), false);
        c.due("status(4)", x.status(4), 2);
        x.pass(9, 50, 1);
        x.toss(20);
        x.night();
        c.due("passes", x.has(5), 4);
        c.due("least", x.least(2, 0), 21);
        c.due("undo the night", x.undo(), true);
        c.due("passes", x.has(5), 1);
        c.due("least", x.least(2, 0), 29);
        c.due("truth", x.truth(0, 0), 0);
        c.due("coin", x.has(4), 20);
        c.due("undo the toss", x.undo(), true);
        c.due("coin", x.has(4), 0);
        c.due("least", x.least(2, 0), 9);
        c.due("undo the pass", x.undo(), true);
        c.due("passes", x.has(5), 0);
        c.due("least", x.least(2, 0), -1);
        c.due("passed", x.passed(0, 0), -1);
        c.due("no more", x.undo(), false);
        c.due("status(4)", x.status(4), 3);
        // Other passes behind one that was undone.
        x.pass(1, 1, 0);
        x.bin(0, 0);
        x.undo();
        x.pass(2, 99, 1);
        c.due("passed", x.passed(0, 0), 2);
        c.due("times", x.times(2, 1), 0);
        c.due("bin", x.bin(2, 1), 1);
        c.due("bin", x.bin(2, 0), 0);
    }

    private static void undoneLots(Check c) {
        HoodBook x = Check.opened("book lines 9 rows 1;hoods 9 from 10 step 1 gives 0 gate 0;");
        x.pass(1, 0, 0);
        x.night();
        x.undo();
        for (int line = 0; line < 9; line++) {
            c.due("lot", x.lot(line), 1);
        }
        x.undo();
        c.due("no lot", x.lot(0), -1);
        // The seed stays: a hood may get other lots the second time.
        long seed = 1;
        for (int n = 0; n < 9 * 10; n++) {
            seed = next(seed);
        }
        x.pass(2, 0, 0);
        for (int n = 0; n < 9; n++) {
            seed = next(seed);
        }
        x.pass(3, 0, 0);
        for (int line = 0; line < 9; line++) {
            seed = next(seed);
            c.due("lot " + line, x.lot(line), seed / 64 % 2 == 0 ? 3 : 2);
        }
    }

    private static long next(long seed) {
        return (1103515245L * seed + 12345L) % 2147483648L;
    }

    private static void lastTwenty(Check c) {
        HoodBook x = Check.opened("book lines 1 rows 1;");
        for (int k = 1; k <= 47; k++) {
            x.pass(k, k, 0);
            c.due("acts", x.has(7), Math.min(20, k));
        }
        for (int k = 46; k >= 27; k--) {
            c.due("undo", x.undo(), true);
            c.due("passes", x.has(5), k);
            c.due("acts", x.has(7), k - 27);
        }
        c.due("undo", x.undo(), false);
        c.due("the last", x.passed(26, 0), 27);
        x.pass(9, 9, 0);
        c.due("acts", x.has(7), 1);
        c.due("undo", x.undo(), true);
        c.due("undo", x.undo(), false);
        c.due("status(4)", x.status(4), 2);
        x.pass(64, 0, 0);
        c.due("a refused one is no act", x.undo(), false);
    }

    private static void seeds(Check c) {
        HoodBook x = new HoodBook();
        c.due("seed(-1)", x.seed(-1), false);
        c.due("seed(min)", x.seed(MIN), false);
        c.due("status(5)", x.status(5), 2);
        for (int start : new int[] {0, 1, 12345, MAX}) {
            c.due("seed", x.seed(start), true);
            // The seed stays when a night is opened.
            Check.open(x, "book lines 3 rows 1;");
            long seed = start;
            int[] lots = new int[3];
            for (int n = 1; n <= 12; n++) {
                x.pass(n, 0, 0);
                for (int line = 0; line < 3; line++) {
                    seed = next(seed);
                    lots[line] = seed / 64 % n == 0 ? n : lots[line];
                }
            }
            c.dueRow("lots by " + start, x::lot, lots);
        }
        c.due("a seed is no act", x.has(7), 12);
        HoodBook one = new HoodBook();
        Check.open(one, "book lines 9 rows 1;");
        HoodBook two = new HoodBook();
        two.seed(1);
        Check.open(two, "book lines 9 rows 1;");
        for (int k = 0; k < 30; k++) {
            one.pass(k, 0, 0);
            two.pass(k, 0, 0);
        }
        for (int line = 0; line < 9; line++) {
            c.due("it is 1 at first", one.lot(line), two.lot(line));
        }
    }
}
