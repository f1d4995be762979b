/** Promises 17 to 22: what the books say, and the truth. */
public final class SaysTest {
    private static final int[] NO_BOOKS = {-1, 3, Integer.MIN_VALUE, Integer.MAX_VALUE};

    public static void main(String[] args) {
        Check c = new Check("SaysTest");
        unlike(c);
        runs(c);
        middle(c);
        oftenest(c);
        toldAndWas(c);
        alike(c);
        truth(c);
        wrongCalls(c);
        c.finish();
    }

    private static void unlike(Check c) {
        HoodBook x = Check.opened("book lines 3 rows 1;mix hood*10;");
        c.due("none", x.says(2, 0), 0);
        x.pass(1, 0, 0);
        x.pass(2, 0, 1);
        x.pass(2, 0, 1);
        c.due("fewer than the lines", x.says(2, 0), 2);
        x.pass(4, 0, 0);
        c.due("2000 by 40", x.says(2, 0), 50);
        x.pass(0, 0, 0);
        c.due("2000 by 20", x.says(2, 0), 100);
        c.due("at gate 1", x.says(1, 0), 1);
        c.due("at gate 0: 2000 by 40", x.says(0, 0), 50);
        HoodBook y = Check.opened("book lines 2 rows 1;mix hood*7;");
        y.pass(0, 0, 0);
        y.pass(43, 0, 0);
        c.due("1000 by 301", y.says(2, 0), 3);
        HoodBook one = Check.opened("book lines 1 rows 1;mix hood;");
        one.pass(5, 0, 0);
        c.due("0 by 5", one.says(2, 0), 0);
        one.pass(0, 0, 0);
        c.due("0 by 0", one.says(2, 0), 0);
    }

    private static void runs(Check c) {
        HoodBook x = Check.opened("book lines 1 rows 1;mix hood;");
        c.due("none", x.says(2, 1), 0);
        x.pass(1, 0, 0);
        c.due("run 0", x.says(2, 1), 1);
        x.pass(12, 0, 0);
        c.due("run 2", x.says(2, 1), 4);
        x.pass(0, 0, 1);
        c.due("run 10", x.says(2, 1), 1024);
        c.due("at gate 0", x.says(0, 1), 4);
    }

    private static void middle(Check c) {
        HoodBook x = Check.opened("book lines 3 rows 1;");
        c.due("none", x.says(2, 2), -1);
        int[] gifts = {10, 90, 40, 99, 34, 33, 0};
        int[] said = {0, 67, 34, 67, 34, 34, 34};
        int[] true_ = {10, 90, 40, 90, 40, 40, 34};
        for (int k = 0; k < gifts.length; k++) {
            x.pass(0, gifts[k], 1);
            c.due("middle said of " + (k + 1), x.says(1, 2), said[k]);
            c.due("middle gift of " + (k + 1), x.truth(1, 4), true_[k]);
        }
        c.due("at gate 0", x.says(0, 2), -1);
        c.due("at gate 0", x.truth(0, 4), -1);
        HoodBook seven = Check.opened("book lines 7 rows 1;");
        seven.pass(0, 15, 0);
        c.due("of bin 1", seven.says(2, 2), 15);
        seven.pass(0, 99, 0);
        c.due("of bin 6", seven.says(2, 2), 86);
        HoodBook one = Check.opened("book lines 1 rows 1;");
        one.pass(0, 99, 0);
        c.due("of the one bin", one.says(2, 2), 0);
    }

    private static void oftenest(Check c) {
        HoodBook x = Check.opened("book lines 3 rows 1;");
        c.due("none", x.says(2, 3), -1);
        x.pass(9, 0, 0);
        x.pass(4, 0, 0);
        c.due("of like ones the first place", x.says(2, 3), 9);
        x.pass(4, 0, 0);
        c.due("the greater number", x.says(2, 3), 4);
        x.pass(9, 0, 0);
        c.due("like again", x.says(2, 3), 9);
        HoodBook one = Check.opened("book lines 1 rows 1;");
        one.pass(1, 0, 0);
        one.pass(2, 0, 0);
        c.due("all empty", one.says(2, 3), -1);
    }

    private static void toldAndWas(Check c) {
        HoodBook x = Check.opened("book lines 3 rows 2;mix hood*line;");
        c.due("told of none", x.told(2, 0), 0);
        c.due("was of none", x.was(2, 0), 0);
        x.pass(1, 0, 0);
        x.pass(4, 0, 0);
        x.pass(2, 0, 1);
        // Rows 0 1 2 and 3 0 0; twice the hood modulo 3 tells.
        c.dueRow("told", h -> x.told(2, h), 0, 2, 1, 0, 2, 1);
        c.dueRow("told at gate 0", h -> x.told(0, h), 0, 2, 0, 0, 2, 0);
        c.dueRow("told at gate 1", h -> x.told(1, h), 0, 0, 1, 0, 0, 1);
        // Bits 5 6, 20 0, 10 12.
        c.dueRow("was", h -> x.was(2, h), 1, 1, 1, 0, 1, 0, 1, 0, 0, 0);
        c.due("was(2, 25)", x.was(2, 25), 1);
        c.due("was(2, 28)", x.was(2, 28), 1);
        c.due("was(0, 2)", x.was(0, 2), 0);
        c.due("was(1, 2)", x.was(1, 2), 1);
        c.due("was(1, 1)", x.was(1, 1), 0);
        c.due("told(2, 63)", x.told(2, 63), 0);
        c.due("was(2, 63)", x.was(2, 63), 0);
        HoodBook rows = Check.opened("book lines 9 rows 3;mix max(hood-line,0);");
        rows.pass(4, 0, 0);
        // Marks 2, 1, 0 in its lines 2 to 4: of hood 2 those are 0, 0, 0.
        c.due("told of hood 4", rows.told(2, 4), 1);
        c.due("told of hood 2", rows.told(2, 2), 0);
        c.due("told of hood 13", rows.told(2, 13), 1);
    }

    private static void alike(Check c) {
        HoodBook x = Check.opened("book lines 3 rows 1;mix hood*line;");
        c.due("none", x.alike(), 0);
        x.pass(2, 0, 0);
        c.due("none at gate 1", x.alike(), 0);
        x.pass(3, 0, 1);
        c.due("line 0 alone", x.alike(), 1);
        x.pass(2, 0, 1);
        c.due("all", x.alike(), 3);
        HoodBook y = Check.opened("book lines 9 rows 1;mix 5;");
        y.pass(2, 0, 1);
        c.due("none at gate 0", y.alike(), 0);
        y.pass(9, 0, 0);
        c.due("nine", y.alike(), 9);
        c.due("without a night", new HoodBook().alike(), -1);
    }

    private static void truth(Check c) {
        HoodBook x = Check.opened("book lines 1 rows 1;");
        for (int book = 0; book < 3; book++) {
            int b = book;
            c.dueRow("truth of none", k -> x.truth(b, k), 0, 0, -1, -1, -1, -1);
            c.due("times of none", x.times(book, 5), 0);
        }
        x.pass(9, 30, 0);
        x.pass(4, 10, 1);
        x.pass(9, 20, 1);
        x.pass(4, 40, 1);
        c.dueRow("truth of all", k -> x.truth(2, k), 4, 2, 4, 2, 30, -1);
        c.dueRow("truth of gate 0", k -> x.truth(0, k), 1, 1, 9, 1, 30, -1);
        c.dueRow("truth of gate 1", k -> x.truth(1, k), 3, 2, 4, 2, 20, -1);
        x.pass(9, 99, 0);
        c.dueRow("truth of all", k -> x.truth(2, k), 5, 2, 9, 3, 30, -1);
        c.due("times(2, 9)", x.times(2, 9), 3);
        c.due("times(0, 9)", x.times(0, 9), 2);
        c.due("times(1, 9)", x.times(1, 9), 1);
        c.due("times(2, 63)", x.times(2, 63), 0);
    }

    private static void wrongCalls(Check c) {
        HoodBook x = Check.opened("book lines 2 rows 1;");
        x.pass(1, 1, 0);
        HoodBook none = new HoodBook();
        for (int bad : NO_BOOKS) {
            c.due("says", x.says(bad, 0), -1);
            c.due("told", x.told(bad, 1), -1);
            c.due("was", x.was(bad, 1), -1);
            c.due("truth", x.truth(bad, 0), -1);
            c.due("times", x.times(bad, 1), -1);
        }
        for (int bad : new int[] {-1, 64, Integer.MIN_VALUE, Integer.MAX_VALUE}) {
            c.due("says", x.says(2, bad), -1);
            c.due("told", x.told(2, bad), -1);
            c.due("was", x.was(2, bad), -1);
            c.due("truth", x.truth(2, bad), -1);
            c.due("times", x.times(2, bad), -1);
        }
        c.due("says(2, 4)", x.says(2, 4), -1);
        c.due("truth(2, 5)", x.truth(2, 5), -1);
        for (int what = 0; what < 4; what++) {
            c.due("says without a night", none.says(2, what), -1);
            c.due("truth without a night", none.truth(2, what), -1);
        }
        c.due("told without a night", none.told(2, 0), -1);
        c.due("was without a night", none.was(2, 0), -1);
        c.due("times without a night", none.times(2, 0), -1);
    }
}
