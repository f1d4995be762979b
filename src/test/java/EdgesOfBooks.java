import java.math.BigInteger;

/** Terms II up to the draws, and promises 6 to 16: marks, passes, what the books have of them. */
final class EdgesOfBooks {
    private static final int MIN = Integer.MIN_VALUE;
    private static final int MAX = Integer.MAX_VALUE;
    private static final int[] NO_BOOKS = {-1, 3, MIN, MAX};

    private EdgesOfBooks() {
    }

    static void all(Sentences s) {
        hoodsAndMarks(s);
        passes(s);
        threeBooks(s);
        leastAndRun(s);
        often(s);
        crossed(s);
        bitsAndBins(s);
        signs(s);
        lots(s);
        draws(s);
        has(s);
        mark(s);
        passed(s);
        leastCall(s);
        runCall(s);
        oftenCall(s);
        crossedCall(s);
        bitCall(s);
        binCall(s);
        signCall(s);
        lotCall(s);
    }

    /** A sum that is this one in the one line, 0 in all others. */
    static String inLine(int line, String sum) {
        return "max(0,1-max(line-" + line + "," + line + "-line))*(" + sum + ")";
    }

    static HoodBook book(int lines, int rows, String mix, int... hoods) {
        HoodBook x = Check.opened("book lines " + lines + " rows " + rows + ";mix " + mix + ";");
        for (int hood : hoods) {
            x.pass(hood, 0, 0);
        }
        return x;
    }

    private static void hoodsAndMarks(Sentences s) {
        s.of("II", "HOODS are 0 .. 63.");
        HoodBook x = book(1, 1, "hood");
        s.due("mark(0, 0)", x.mark(0, 0), 0);
        s.due("mark(63, 0)", x.mark(63, 0), 63);
        s.due("mark(64, 0)", x.mark(64, 0), -1);
        s.due("mark(-1, 0)", x.mark(-1, 0), -1);
        s.due("pass(0)", x.pass(0, 0, 0), 1);
        s.due("pass(63)", x.pass(63, 0, 0), 2);
        s.due("pass(64)", x.pass(64, 0, 0), -1);
        s.due("pass(-1)", x.pass(-1, 0, 0), -1);
        s.of("II", "A MARK of a HOOD in a LINE (0 .. 8) is the SUM of mix less the greatest multiple of 1000 not above it "
            + "(0 .. 999).");
        String[] sums = {"0", "999", "1000", "1001", "1999", "2000", "0-1", "0-999", "0-1000", "0-1001", "1000*1000",
            "0-1000*1000", "1000*1000-1", "1-1000*1000"};
        int[] marks = {0, 999, 0, 1, 999, 0, 999, 1, 0, 999, 0, 0, 999, 1};
        for (int k = 0; k < sums.length; k++) {
            s.due("mark by " + sums[k], book(1, 1, sums[k]).mark(0, 0), marks[k]);
        }
        HoodBook l = book(1, 1, "line");
        s.dueRow("line", k -> l.mark(7, k), 0, 1, 2, 3, 4, 5, 6, 7, 8, -1);
        s.of("II", "At first nobody has passed, the COIN is that told.");
        HoodBook told = Check.opened("book lines 1 rows 1;coin 42;");
        s.due("passes", told.has(5), 0);
        s.due("passed", told.passed(0, 0), -1);
        s.due("coin", told.has(4), 42);
    }

    private static void passes(Sentences s) {
        s.of("II", "A PASS is of a HOOD, what it gives (0 .. 99), its GATE;");
        HoodBook x = book(1, 1, "hood");
        s.due("the least gift", x.pass(5, 0, 0), 1);
        s.due("the most", x.pass(6, 99, 1), 2);
        s.due("below", x.pass(5, -1, 0), -1);
        s.due("above", x.pass(5, 100, 0), -1);
        s.due("gate -1", x.pass(5, 0, -1), -1);
        s.due("gate 2", x.pass(5, 0, 2), -1);
        s.dueRow("the first", k -> x.passed(0, k), 5, 0, 0);
        s.dueRow("the second", k -> x.passed(1, k), 6, 99, 1);
        s.of("II", "400 at most.");
        HoodBook full = Check.opened("book lines 1 rows 1;hoods 99 from 0 step 1 gives turn gate 0;");
        for (int k = 1; k <= 4; k++) {
            s.due("night", full.night(), 99 * k);
        }
        for (int k = 397; k <= 400; k++) {
            s.due("pass", full.pass(0, 0, 0), k);
        }
        s.due("the 401st", full.pass(0, 0, 0), -1);
        s.due("passes", full.has(5), 400);
        s.due("truth", full.truth(2, 0), 400);
    }

    private static void threeBooks(Sentences s) {
        s.of("II", "There are three BOOKS: of the PASSES at GATE 0, at GATE 1, of all (2).");
        HoodBook x = book(2, 1, "hood");
        x.pass(4, 10, 0);
        x.pass(5, 20, 1);
        x.pass(6, 60, 1);
        s.dueRow("passes", k -> x.truth(k, 0), 1, 2, 3, -1);
        s.dueRow("times of 4", k -> x.times(k, 4), 1, 0, 1, -1);
        s.dueRow("times of 5", k -> x.times(k, 5), 0, 1, 1, -1);
        s.dueRow("least", k -> x.least(k, 0), 4, 5, 4, -1);
        s.dueRow("bin", k -> x.bin(k, 0), 1, 1, 2, -1);
        s.of("II", "Each has, by its PASSES in their order and the COIN of now (L lines, R rows):");
        s.due("1, 2, 1", book(1, 1, "0", 1, 2, 1).often(2, 0, 0), 1);
        s.due("1, 1, 2", book(1, 1, "0", 1, 1, 2).often(2, 0, 0), 1);
        s.due("1, 2, 2", book(1, 1, "0", 1, 2, 2).often(2, 0, 0), 2);
        HoodBook c = book(1, 1, "hood+coin*10", 3);
        s.due("by coin 0", c.least(2, 0), 3);
        c.toss(7);
        s.due("by coin 7", c.least(2, 0), 73);
        s.due("by coin 7", c.sign(0, 0), 73);
        c.pass(1, 0, 0);
        s.due("by coin 7", c.least(2, 0), 71);
        c.undo();
        c.undo();
        s.due("by coin 0 again", c.least(2, 0), 3);
        HoodBook r = book(9, 3, "0");
        s.due("nine lines", r.bin(2, 8), 0);
        s.due("three rows", r.crossed(2, 2, 8), 0);
    }

    private static void leastAndRun(Sentences s) {
        s.of("II", "LEAST: of unlike MARKS in LINE 0 the L least, rising.");
        HoodBook x = book(3, 1, inLine(0, "hood/2*10+1"), 20, 21, 9, 8, 20);
        s.dueRow("fewer than L", k -> x.least(2, k), 41, 101, -1);
        x.pass(62, 0, 0);
        s.dueRow("L", k -> x.least(2, k), 41, 101, 311, -1);
        x.pass(63, 0, 0);
        x.pass(60, 0, 0);
        s.dueRow("another last", k -> x.least(2, k), 41, 101, 301, -1);
        x.pass(0, 0, 0);
        s.dueRow("another first", k -> x.least(2, k), 1, 41, 101, -1);
        x.pass(40, 0, 0);
        s.dueRow("one above all", k -> x.least(2, k), 1, 41, 101, -1);
        HoodBook one = book(1, 1, "hood", 9, 10, 8, 0);
        s.dueRow("one line", k -> one.least(2, k), 0, -1);
        HoodBook nine = book(9, 1, "63-hood", 1, 2, 3, 4, 5, 6, 7, 8, 9, 10);
        s.dueRow("nine lines", k -> nine.least(2, k), 53, 54, 55, 56, 57, 58, 59, 60, 61, -1);
        nine.pass(0, 0, 0);
        s.dueRow("one above nine", k -> nine.least(2, k), 53, 54, 55, 56, 57, 58, 59, 60, 61, -1);
        s.of("II", "RUN: the most noughts at the end of a MARK in LINE 1, in twos (0 has 10; -1 without PASSES).");
        HoodBook r = book(1, 1, "(1-" + inLine(1, "1") + ")*512+" + inLine(1, "hood*8"));
        s.due("without passes", r.run(2), -1);
        int[] hoods = {1, 3, 2, 32, 1, 0};
        int[] runs = {3, 3, 4, 8, 8, 10};
        for (int k = 0; k < hoods.length; k++) {
            r.pass(hoods[k], 0, 0);
            s.due("run", r.run(2), runs[k]);
        }
        s.due("the other gate", r.run(1), -1);
        s.due("of 999", book(1, 1, "999", 0).run(2), 0);
        s.due("of 1", book(1, 1, "1", 0).run(2), 0);
        s.due("of 512", book(1, 1, "512", 0).run(2), 9);
        s.due("of 0", book(1, 1, "0", 0).run(2), 10);
        s.due("of 1000", book(1, 1, "1000", 0).run(2), 10);
    }

    private static void often(Sentences s) {
        s.of("II", "OFTEN: L places for a HOOD and a number: a HOOD that has one gets 1 more;");
        HoodBook x = book(2, 1, "0", 0, 0, 5, 0);
        s.dueRow("hoods", k -> x.often(2, k, 0), 0, 5, -1);
        s.dueRow("numbers", k -> x.often(2, k, 1), 3, 1, -1);
        HoodBook all = Check.opened("book lines 1 rows 1;hoods 80 from 63 step 0 gives 0 gate 0;");
        for (int k = 0; k < 5; k++) {
            all.night();
        }
        s.due("400 times", all.often(0, 0, 1), 400);
        s.of("II", "else it gets the first empty place, with 1;");
        HoodBook y = book(3, 1, "0", 8, 9, 9, 7, 6, 5);
        s.dueRow("hoods", k -> y.often(2, k, 0), 5, 9, -1, -1);
        s.dueRow("numbers", k -> y.often(2, k, 1), 1, 1, -1, -1);
        y.pass(8, 0, 0);
        s.dueRow("hoods", k -> y.often(2, k, 0), 5, 9, 8, -1);
        HoodBook again = book(3, 1, "0", 8, 9, 9, 7, 6, 7);
        s.dueRow("not that which it had", k -> again.often(2, k, 0), 7, 9, -1, -1);
        s.of("II", "else each number is 1 less, and those that are 0 then are empty.");
        HoodBook z = book(2, 1, "0", 1, 1, 2, 3);
        s.dueRow("hoods", k -> z.often(2, k, 0), 1, -1, -1);
        s.dueRow("numbers", k -> z.often(2, k, 1), 1, -1, -1);
        s.due("3 has no place", z.often(2, 1, 0), -1);
        z.pass(2, 0, 0);
        s.due("2 begins with 1 again", z.often(2, 1, 1), 1);
        HoodBook none = book(9, 1, "0", 1, 2, 3, 4, 5, 6, 7, 8, 9, 10);
        for (int k = 0; k < 9; k++) {
            s.due("all are empty", none.often(2, k, 0), -1);
        }
    }

    private static void crossed(Sentences s) {
        s.of("II", "CROSSED: R rows of L numbers, 0 at first:");
        for (int rows = 1; rows <= 3; rows++) {
            HoodBook x = book(4, rows, "hood");
            for (int row = 0; row < 4; row++) {
                int due = row < rows ? 0 : -1;
                int r = row;
                s.dueRow("row " + row + " of " + rows, k -> x.crossed(2, r, k), due, due, due, due, -1);
            }
        }
        s.of("II", "in row r the one at its MARK in LINE 2 + r modulo L is 1 more.");
        for (int row = 0; row < 3; row++) {
            HoodBook x = book(4, 3, inLine(2 + row, "hood"), 3, 4, 7, 62);
            for (int r = 0; r < 3; r++) {
                int at = r;
                int[] mine = {1, 0, 1, 2, -1};
                int[] others = {4, 0, 0, 0, -1};
                s.dueRow("row " + r, k -> x.crossed(2, at, k), r == row ? mine : others);
            }
        }
        HoodBook nine = book(9, 1, "999-hood", 0, 9);
        s.due("990 and 999 modulo 9", nine.crossed(2, 0, 0), 2);
        HoodBook one = book(1, 3, "hood", 1, 2, 3);
        s.due("modulo 1", one.crossed(2, 2, 0), 3);
    }

    private static void bitsAndBins(Sentences s) {
        s.of("II", "BITS: 8 times L, unset at first:");
        for (int lines = 1; lines <= 9; lines++) {
            HoodBook x = book(lines, 1, "0");
            int last = 8 * lines - 1;
            s.due("the first", x.bit(2, 0), 0);
            s.due("the last", x.bit(2, last), 0);
            s.due("one behind", x.bit(2, last + 1), -1);
        }
        s.of("II", "those at its MARKS in LINE 5, in LINE 6, modulo 8 times L, are set.");
        HoodBook x = book(2, 1, "hood+line*100", 3);
        // 503 and 603 modulo 16.
        for (int k = 0; k < 16; k++) {
            s.due("bit " + k, x.bit(2, k), k == 7 || k == 11 ? 1 : 0);
        }
        HoodBook w = book(9, 1, inLine(5, "hood+68") + "+" + inLine(6, "hood+8"), 3, 4, 63);
        for (int k = 0; k < 72; k++) {
            boolean set = k == 71 || k == 0 || k == 59 || k == 11 || k == 12 || k == 71;
            s.due("bit " + k, w.bit(2, k), set ? 1 : 0);
        }
        s.of("II", "BINS: L numbers: the one at what it gives times L, divided by 100, rounded down, is 1 more.");
        int[][] firsts = {{0}, {0, 50}, {0, 34, 67}, {0, 25, 50, 75}, {0, 20, 40, 60, 80}, {0, 17, 34, 50, 67, 84},
            {0, 15, 29, 43, 58, 72, 86}, {0, 13, 25, 38, 50, 63, 75, 88}, {0, 12, 23, 34, 45, 56, 67, 78, 89}};
        for (int lines = 1; lines <= 9; lines++) {
            HoodBook b = book(lines, 1, "0");
            for (int k = 0; k < lines; k++) {
                b.pass(0, firsts[lines - 1][k], 1);
                s.due("its first gift", b.bin(1, k), 1);
                int last = k + 1 < lines ? firsts[lines - 1][k + 1] - 1 : 99;
                b.pass(0, last, 1);
                s.due("its last gift", b.bin(1, k), 2);
            }
            s.due("one behind", b.bin(1, lines), -1);
        }
    }

    private static void signs(Sentences s) {
        s.of("II", "SIGNS: in each LINE 0 .. L - 1 the least MARK.");
        HoodBook x = book(9, 1, "500+hood*(line-4)", 10, 3, 20, 10);
        s.dueRow("sign", k -> x.sign(2, k), 420, 440, 460, 480, 500, 503, 506, 509, 512, -1);
        HoodBook three = book(3, 1, "999-hood*500", 0, 2);
        s.dueRow("sign", k -> three.sign(2, k), 999, 999, 999, -1);
        three.pass(1, 0, 0);
        s.dueRow("less", k -> three.sign(2, k), 499, 499, 499, -1);
        HoodBook one = book(1, 1, "hood", 5, 0);
        s.dueRow("one line", k -> one.sign(2, k), 0, -1);
    }

    private static void lots(Sentences s) {
        s.of("II", "LOTS, one for each LINE 0 .. L - 1, are of all PASSES:");
        for (int lines = 1; lines <= 9; lines++) {
            HoodBook x = book(lines, 1, "0");
            x.pass(7, 0, 1);
            for (int line = 0; line < 10; line++) {
                s.due("lot " + line + " of " + lines, x.lot(line), line < lines ? 7 : -1);
            }
        }
        s.of("II", "at a PASS, the n-th of all, for each of these a DRAW of n: 0: the LOT is its HOOD");
        HoodBook x = book(3, 1, "0");
        Draws d = new Draws(1);
        int[] lots = new int[3];
        for (int n = 1; n <= 100; n++) {
            int hood = n * 5 % 64;
            x.pass(hood, 0, n % 2);
            for (int line = 0; line < 3; line++) {
                lots[line] = d.draw(n) == 0 ? hood : lots[line];
            }
            s.dueRow("lots behind " + n, x::lot, lots);
        }
        s.of("II", "(a PASS that is undone leaves the LOTS as they were).");
        HoodBook y = Check.opened("book lines 9 rows 1;hoods 30 from 20 step 1 gives 0 gate 0;");
        y.pass(1, 0, 0);
        y.pass(2, 0, 0);
        int[] before = new int[9];
        for (int line = 0; line < 9; line++) {
            before[line] = y.lot(line);
        }
        y.pass(3, 0, 0);
        y.undo();
        s.dueRow("a pass", y::lot, before);
        y.night();
        y.toss(5);
        y.undo();
        y.undo();
        s.dueRow("a night", y::lot, before);
        y.undo();
        s.due("the first pass alone", y.lot(8), 1);
        y.undo();
        s.due("no pass", y.lot(8), -1);
        y.pass(9, 0, 0);
        s.due("a first pass has all", y.lot(8), 9);
    }

    /** The draws as the document has them, with numbers that have no end. */
    static final class Draws {
        private static final BigInteger ROUND = BigInteger.TWO.pow(31);
        private BigInteger x;

        Draws(int seed) {
            x = BigInteger.valueOf(seed);
        }

        int draw(int m) {
            x = x.multiply(BigInteger.valueOf(1103515245)).add(BigInteger.valueOf(12345)).mod(ROUND);
            return x.divide(BigInteger.valueOf(64)).mod(BigInteger.valueOf(m)).intValue();
        }
    }

    private static void draws(Sentences s) {
        s.of("II", "A DRAW of m: x (the seed) becomes (1103515245 x + 12345) mod 2 to the 31; floor(x / 64) mod m.");
        for (int seed : new int[] {0, 1, 2, 63, 64, 1 << 30, MAX - 1, MAX}) {
            HoodBook x = book(1, 1, "0");
            x.seed(seed);
            Draws d = new Draws(seed);
            int lot = -1;
            for (int n = 1; n <= 40; n++) {
                x.pass(n, 0, 0);
                lot = d.draw(n) == 0 ? n : lot;
                s.due("lot by " + seed + " behind " + n, x.lot(0), lot);
            }
        }
    }

    private static void has(Sentences s) {
        s.of("6", "How many there are: 0 lines, 1 rows, 2 rows of hoods, 3 PASSES a NIGHT would have, 4 the COIN, 5 PASSES, "
            + "6 unlike HOODS that passed, 7 ACTS that can be undone.");
        HoodBook x = Check.opened("book lines 9 rows 3;" + "hoods 99 from 0 step 1 gives 0 gate 0;".repeat(5) + "coin 99;");
        s.dueRow("a night above 400", x::has, 9, 3, 5, 495, 99, 0, 0, 0);
        x.pass(0, 0, 0);
        x.pass(0, 0, 1);
        x.pass(63, 0, 1);
        x.toss(0);
        s.dueRow("has", x::has, 9, 3, 5, 495, 0, 3, 2, 4);
        x.undo();
        x.undo();
        s.dueRow("undone", x::has, 9, 3, 5, 495, 99, 2, 1, 2);
        HoodBook y = Check.opened("book lines 1 rows 2;" + "hoods 20 from 0 step 1 gives 0 gate 0;".repeat(20));
        y.night();
        s.dueRow("has", y::has, 1, 2, 20, 400, 0, 400, 20, 1);
        HoodBook all = Check.opened("book lines 1 rows 1;hoods 64 from 0 step 1 gives 0 gate 0;");
        s.dueRow("has", all::has, 1, 1, 1, 64, 0, 0, 0, 0);
        all.night();
        s.due("all hoods", all.has(6), 64);
        s.of("6", "NONE for others.");
        for (int bad : new int[] {-1, 8, MIN, MAX}) {
            s.due("has(" + bad + ")", x.has(bad), -1);
            s.due("has(" + bad + ")", new HoodBook().has(bad), -1);
        }
    }

    private static void mark(Sentences s) {
        s.of("7", "A MARK of a HOOD in a LINE (0 .. 8);");
        HoodBook x = book(1, 1, "hood*10+line");
        s.due("mark(0, 0)", x.mark(0, 0), 0);
        s.due("mark(63, 8)", x.mark(63, 8), 638);
        s.of("7", "NONE when there is none such, or without a NIGHT.");
        int[][] bad = {{-1, 0}, {64, 0}, {0, -1}, {0, 9}, {MIN, 0}, {MAX, 0}, {0, MIN}, {0, MAX}, {64, 9}};
        for (int[] b : bad) {
            s.due("mark(" + b[0] + ", " + b[1] + ")", x.mark(b[0], b[1]), -1);
        }
        s.due("without a night", new HoodBook().mark(0, 0), -1);
    }

    private static void passed(Sentences s) {
        s.of("8", "Of the k-th PASS: 0 HOOD, 1 what it gave, 2 GATE.");
        HoodBook x = book(1, 1, "0");
        x.pass(63, 99, 1);
        x.pass(1, 2, 0);
        s.dueRow("the first", k -> x.passed(0, k), 63, 99, 1);
        s.dueRow("the second", k -> x.passed(1, k), 1, 2, 0);
        s.of("8", "NONE when there is none such, or for others.");
        for (int bad : new int[] {-1, 2, MIN, MAX}) {
            s.due("pass " + bad, x.passed(bad, 0), -1);
        }
        for (int bad : new int[] {-1, 3, MIN, MAX}) {
            s.due("what " + bad, x.passed(0, bad), -1);
        }
        x.undo();
        s.due("undone", x.passed(1, 0), -1);
        s.due("without passes", book(1, 1, "0").passed(0, 0), -1);
        s.due("without a night", new HoodBook().passed(0, 0), -1);
        HoodBook full = Check.opened("book lines 1 rows 1;" + "hoods 80 from 3 step 1 gives 9 gate 1;".repeat(5));
        full.night();
        s.due("the 400th", full.passed(399, 0), 18);
        s.due("a 401st", full.passed(400, 0), -1);
    }

    private static void leastCall(Sentences s) {
        s.of("9", "The k-th MARK of LEAST;");
        HoodBook x = book(3, 1, "hood", 9, 4);
        s.due("least(2, 0)", x.least(2, 0), 4);
        s.due("least(0, 1)", x.least(0, 1), 9);
        s.of("9", "NONE when there is none such.");
        s.due("beyond those there are", x.least(2, 2), -1);
        x.pass(1, 0, 0);
        s.due("the last", x.least(2, 2), 9);
        for (int bad : new int[] {-1, 3, 9, MIN, MAX}) {
            s.due("least(2, " + bad + ")", x.least(2, bad), -1);
        }
        for (int bad : NO_BOOKS) {
            s.due("book " + bad, x.least(bad, 0), -1);
        }
        s.due("a book without passes", x.least(1, 0), -1);
        s.due("a tenth of nine", book(9, 1, "hood", 1, 2, 3, 4, 5, 6, 7, 8, 9, 10).least(2, 9), -1);
        s.due("without a night", new HoodBook().least(2, 0), -1);
    }

    private static void runCall(Sentences s) {
        s.of("10", "RUN;");
        HoodBook x = book(1, 1, "hood", 4);
        s.due("run(0)", x.run(0), 2);
        s.due("run(2)", x.run(2), 2);
        s.of("10", "NONE without PASSES, or when there is none such.");
        s.due("a book without passes", x.run(1), -1);
        for (int bad : NO_BOOKS) {
            s.due("book " + bad, x.run(bad), -1);
        }
        x.undo();
        s.due("undone", x.run(2), -1);
        s.due("without a night", new HoodBook().run(2), -1);
    }

    private static void oftenCall(Sentences s) {
        s.of("11", "Of the k-th place of OFTEN: 0 the HOOD, 1 its number.");
        HoodBook x = book(3, 1, "0", 8, 9, 9, 7, 6);
        s.due("the hood", x.often(2, 1, 0), 9);
        s.due("its number", x.often(2, 1, 1), 1);
        s.of("11", "NONE when it is empty, there is none such, or for others.");
        for (int what = 0; what < 2; what++) {
            s.due("empty again", x.often(2, 0, what), -1);
            s.due("empty again", x.often(2, 2, what), -1);
            s.due("empty", x.often(1, 0, what), -1);
            for (int bad : new int[] {-1, 3, 9, MIN, MAX}) {
                s.due("place " + bad, x.often(2, bad, what), -1);
            }
            for (int bad : NO_BOOKS) {
                s.due("book " + bad, x.often(bad, 1, what), -1);
            }
            s.due("without a night", new HoodBook().often(2, 0, what), -1);
        }
        for (int bad : new int[] {-1, 2, MIN, MAX}) {
            s.due("what " + bad, x.often(2, 1, bad), -1);
        }
        s.due("a tenth place of nine", book(9, 1, "0", 1, 2, 3, 4, 5, 6, 7, 8, 9).often(2, 9, 0), -1);
    }

    private static void crossedCall(Sentences s) {
        s.of("12", "A number of CROSSED;");
        HoodBook x = book(3, 2, "hood", 4, 7, 5);
        s.dueRow("the first row", k -> x.crossed(0, 0, k), 0, 2, 1);
        s.dueRow("the last row", k -> x.crossed(2, 1, k), 0, 2, 1);
        s.dueRow("a book without passes", k -> x.crossed(1, 1, k), 0, 0, 0);
        s.of("12", "NONE when there is none such.");
        for (int bad : new int[] {-1, 2, 3, MIN, MAX}) {
            s.due("row " + bad, x.crossed(2, bad, 1), -1);
        }
        for (int bad : new int[] {-1, 3, 9, MIN, MAX}) {
            s.due("number " + bad, x.crossed(2, 0, bad), -1);
        }
        HoodBook nine = book(9, 3, "0", 1);
        s.due("a tenth of nine", nine.crossed(2, 2, 9), -1);
        s.due("a fourth row", nine.crossed(2, 3, 0), -1);
        for (int bad : NO_BOOKS) {
            s.due("book " + bad, x.crossed(bad, 0, 0), -1);
        }
        s.due("without a night", new HoodBook().crossed(2, 0, 0), -1);
    }

    private static void bitCall(Sentences s) {
        s.of("13", "Whether a BIT is set: 1 or 0;");
        HoodBook x = book(2, 1, "hood", 0, 15, 31);
        s.due("the first", x.bit(2, 0), 1);
        s.due("the last", x.bit(0, 15), 1);
        s.due("unset", x.bit(2, 1), 0);
        s.due("a book without passes", x.bit(1, 0), 0);
        s.of("13", "NONE when there is none such.");
        for (int bad : new int[] {-1, 16, 72, MIN, MAX}) {
            s.due("bit " + bad, x.bit(2, bad), -1);
        }
        for (int bad : NO_BOOKS) {
            s.due("book " + bad, x.bit(bad, 0), -1);
        }
        s.due("without a night", new HoodBook().bit(2, 0), -1);
    }

    private static void binCall(Sentences s) {
        s.of("14", "A number of BINS;");
        HoodBook x = book(2, 1, "0", 1, 2);
        s.dueRow("bin", k -> x.bin(2, k), 2, 0);
        s.dueRow("a book without passes", k -> x.bin(1, k), 0, 0);
        s.of("14", "NONE when there is none such.");
        for (int bad : new int[] {-1, 2, 9, MIN, MAX}) {
            s.due("bin " + bad, x.bin(2, bad), -1);
        }
        s.due("a tenth of nine", book(9, 1, "0", 1).bin(2, 9), -1);
        for (int bad : NO_BOOKS) {
            s.due("book " + bad, x.bin(bad, 0), -1);
        }
        s.due("without a night", new HoodBook().bin(2, 0), -1);
    }

    private static void signCall(Sentences s) {
        s.of("15", "A SIGN;");
        HoodBook x = book(2, 1, "hood*10+line", 3, 2);
        s.due("the first line", x.sign(2, 0), 20);
        s.due("the last line", x.sign(0, 1), 21);
        s.of("15", "NONE without PASSES, or when there is none such.");
        s.due("a book without passes", x.sign(1, 0), -1);
        for (int bad : new int[] {-1, 2, 9, MIN, MAX}) {
            s.due("line " + bad, x.sign(2, bad), -1);
        }
        s.due("a tenth of nine", book(9, 1, "0", 1).sign(2, 9), -1);
        for (int bad : NO_BOOKS) {
            s.due("book " + bad, x.sign(bad, 0), -1);
        }
        x.undo();
        x.undo();
        s.due("undone", x.sign(2, 0), -1);
        s.due("without a night", new HoodBook().sign(2, 0), -1);
    }

    private static void lotCall(Sentences s) {
        s.of("16", "The LOT of a LINE;");
        HoodBook x = book(2, 1, "0");
        s.due("without passes", x.lot(0), -1);
        x.pass(63, 0, 0);
        s.due("the first line", x.lot(0), 63);
        s.due("the last line", x.lot(1), 63);
        s.of("16", "NONE without PASSES, or when there is none such.");
        for (int bad : new int[] {-1, 2, 9, MIN, MAX}) {
            s.due("line " + bad, x.lot(bad), -1);
        }
        s.due("a tenth of nine", book(9, 1, "0", 1).lot(9), -1);
        x.undo();
        s.due("undone", x.lot(0), -1);
        s.due("without passes", book(1, 1, "0").lot(0), -1);
        s.due("without a night", new HoodBook().lot(0), -1);
    }
}
