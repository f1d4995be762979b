import java.util.Arrays;

/** The acts of terms II, the images of terms IV, and promises 28 to 32 and 34 to 37. */
final class EdgesOfActs {
    private static final int MIN = Integer.MIN_VALUE;
    private static final int MAX = Integer.MAX_VALUE;
    private static final String B = "book lines 1 rows 1;";

    private EdgesOfActs() {
    }

    static void all(Sentences s) {
        nightTerm(s);
        undoTerm(s);
        pass(s);
        night(s);
        toss(s);
        undo(s);
        seed(s);
        imageTerm(s);
        image(s);
        octet(s);
        onTaken(s);
        onRefused(s);
        onLots(s);
        onStaying(s);
        status(s);
    }

    private static HoodBook rows(String... rows) {
        HoodBook x = Check.opened(B + String.join("", rows));
        x.night();
        return x;
    }

    private static void nightTerm(Sentences s) {
        s.of("II", "ACTS: a PASS; a NIGHT: all rows of hoods as told pass, one row behind the other:");
        HoodBook x = rows("hoods 2 from 5 step 1 gives 1 gate 1;", "coin 3;", "hoods 1 from 4 step 0 gives 2 gate 0;",
            "mix 1;", "hoods 2 from 9 step 9 gives 3 gate 1;");
        s.dueRow("hoods", k -> x.passed(k, 0), 5, 6, 4, 9, 18, -1);
        s.dueRow("gifts", k -> x.passed(k, 1), 1, 1, 2, 3, 3, -1);
        s.dueRow("gates", k -> x.passed(k, 2), 1, 1, 0, 1, 1, -1);
        s.due("one act", x.has(7), 1);
        x.pass(1, 1, 1);
        s.due("another act", x.has(7), 2);
        s.of("II", "HOODS from, from + step, and so on, modulo 64,");
        HoodBook wrap = rows("hoods 4 from 62 step 1 gives 0 gate 0;", "hoods 4 from 63 step 63 gives 0 gate 0;",
            "hoods 3 from 63 step 0 gives 0 gate 0;", "hoods 4 from 0 step 32 gives 0 gate 0;");
        s.dueRow("hoods", k -> wrap.passed(k, 0), 62, 63, 0, 1, 63, 62, 61, 60, 63, 63, 63, 0, 32, 0, 32, -1);
        HoodBook far = rows("hoods 99 from 63 step 63 gives hood gate 0;");
        s.due("the 64th", far.passed(63, 0), 0);
        s.due("the 65th", far.passed(64, 0), 63);
        s.due("the 99th", far.passed(98, 0), 29);
        s.due("gives by it", far.passed(98, 1), 29);
        s.of("II", "each giving the SUM of gives, 0 .. 99 (below is 0, above 99);");
        HoodBook g = rows("hoods 5 from 0 step 0 gives turn-2 gate 0;", "hoods 4 from 0 step 0 gives 97+turn gate 0;",
            "hoods 1 from 0 step 0 gives 9999*9999 gate 0;", "hoods 1 from 0 step 0 gives 0-9999*9999 gate 0;");
        s.dueRow("gifts", k -> g.passed(k, 1), 0, 0, 0, 1, 2, 97, 98, 99, 99, 99, 0);
        s.of("II", "another COIN.");
        HoodBook c = Check.opened(B + "coin 3;");
        c.toss(4);
        s.due("one act", c.has(7), 1);
        s.due("coin", c.has(4), 4);
        c.undo();
        s.due("coin", c.has(4), 3);
    }

    private static void undoTerm(Sentences s) {
        s.of("II", "The last 20 can be undone.");
        HoodBook x = Check.opened(B + "hoods 2 from 5 step 1 gives 1 gate 1;");
        for (int k = 0; k < 19; k++) {
            x.pass(k, 0, 0);
        }
        s.due("19 acts", x.has(7), 19);
        x.night();
        s.due("20 acts", x.has(7), 20);
        x.toss(5);
        s.due("20 of 21", x.has(7), 20);
        x.pass(63, 9, 1);
        s.due("20 of 22", x.has(7), 20);
        int[] passes = {21, 21, 19, 18, 17, 16, 15, 14, 13, 12, 11, 10, 9, 8, 7, 6, 5, 4, 3, 2};
        for (int k = 0; k < 20; k++) {
            s.due("undo " + k, x.undo(), true);
            s.due("passes", x.has(5), passes[k]);
            s.due("coin", x.has(4), k == 0 ? 5 : 0);
            s.due("acts", x.has(7), 19 - k);
        }
        s.due("a 21st", x.undo(), false);
        s.due("two stay", x.has(5), 2);
        s.due("the second", x.passed(1, 0), 1);
        for (int k = 0; k < 45; k++) {
            x.toss(k % 2 + 1);
        }
        for (int k = 0; k < 20; k++) {
            s.due("undo", x.undo(), true);
        }
        s.due("a 21st", x.undo(), false);
        s.due("coin", x.has(4), 1);
    }

    private static void pass(Sentences s) {
        s.of("28", "A PASS: how many there are;");
        HoodBook x = Check.opened(B + "hoods 99 from 0 step 0 gives 0 gate 0;");
        s.due("the first", x.pass(0, 0, 0), 1);
        s.due("the second", x.pass(63, 99, 1), 2);
        for (int k = 0; k < 4; k++) {
            x.night();
        }
        s.due("the 399th", x.pass(0, 0, 0), 399);
        s.due("the 400th", x.pass(0, 0, 0), 400);
        s.due("none is refused", x.status(2), 0);
        s.of("28", "NONE, refused (2), when it can't be, there are 400, or without a NIGHT.");
        s.due("there are 400", x.pass(0, 0, 0), -1);
        s.due("status(2)", x.status(2), 1);
        x.undo();
        s.due("there are 399", x.pass(0, 0, 0), 400);
        s.due("there are 400", x.pass(0, 0, 0), -1);
        HoodBook y = Check.opened(B);
        int[][] bad = {{-1, 0, 0}, {64, 0, 0}, {0, -1, 0}, {0, 100, 0}, {0, 0, -1}, {0, 0, 2}, {MIN, 0, 0}, {MAX, 0, 0},
            {0, MIN, 0}, {0, MAX, 0}, {0, 0, MIN}, {0, 0, MAX}};
        for (int k = 0; k < bad.length; k++) {
            s.due("pass " + Arrays.toString(bad[k]), y.pass(bad[k][0], bad[k][1], bad[k][2]), -1);
            s.due("status(2)", y.status(2), k + 1);
        }
        s.due("nobody passed", y.has(5), 0);
        s.due("no act", y.has(7), 0);
        HoodBook none = new HoodBook();
        s.due("without a night", none.pass(0, 0, 0), -1);
        s.due("status(2)", none.status(2), 1);
    }

    private static void night(Sentences s) {
        String eighty = "hoods 80 from 0 step 0 gives 0 gate 0;";
        s.of("29", "A NIGHT: how many PASSES there are;");
        HoodBook x = Check.opened(B + "hoods 1 from 5 step 0 gives 0 gate 0;");
        s.due("one", x.night(), 1);
        s.due("again", x.night(), 2);
        HoodBook all = Check.opened(B + eighty.repeat(5));
        s.due("400 at once", all.night(), 400);
        s.due("none is refused", all.status(3), 0);
        s.of("29", "NONE, refused (3), when there would be more than 400, nobody would pass, or without a NIGHT.");
        s.due("800", all.night(), -1);
        s.due("status(3)", all.status(3), 1);
        s.due("400 stay", all.has(5), 400);
        s.due("one act", all.has(7), 1);
        all.undo();
        all.pass(1, 0, 0);
        s.due("401", all.night(), -1);
        s.due("nobody of them passed", all.has(5), 1);
        all.undo();
        s.due("400", all.night(), 400);
        HoodBook above = Check.opened(B + eighty.repeat(5) + "hoods 1 from 0 step 0 gives 0 gate 0;");
        s.due("401 at once", above.night(), -1);
        s.due("no act", above.has(7), 0);
        HoodBook nobody = Check.opened(B + "mix 1;coin 5;");
        s.due("nobody", nobody.night(), -1);
        s.due("status(3)", nobody.status(3), 1);
        s.due("no act", nobody.has(7), 0);
        HoodBook none = new HoodBook();
        s.due("without a night", none.night(), -1);
        s.due("status(3)", none.status(3), 1);
    }

    private static void toss(Sentences s) {
        s.of("30", "Another COIN (0 .. 99): true;");
        HoodBook x = Check.opened(B + "coin 50;");
        s.due("toss(0)", x.toss(0), true);
        s.due("coin", x.has(4), 0);
        s.due("toss(99)", x.toss(99), true);
        s.due("coin", x.has(4), 99);
        s.due("none is refused", x.status(2), 0);
        s.of("30", "false, refused (2), when it is that, it can't be, or without a NIGHT.");
        s.due("it is that", x.toss(99), false);
        s.due("status(2)", x.status(2), 1);
        for (int bad : new int[] {-1, 100, MIN, MAX}) {
            s.due("toss(" + bad + ")", x.toss(bad), false);
        }
        s.due("status(2)", x.status(2), 5);
        s.due("coin", x.has(4), 99);
        s.due("acts", x.has(7), 2);
        s.due("it is that told", Check.opened(B).toss(0), false);
        HoodBook none = new HoodBook();
        s.due("without a night", none.toss(1), false);
        s.due("without a night", none.toss(0), false);
        s.due("status(2)", none.status(2), 2);
    }

    private static void undo(Sentences s) {
        s.of("31", "The latest ACT is undone (the seed stays): true;");
        HoodBook x = Check.opened("book lines 9 rows 1;hoods 3 from 1 step 1 gives 9 gate 0;mix hood+coin;");
        x.pass(9, 50, 1);
        x.toss(20);
        x.night();
        s.due("undo the night", x.undo(), true);
        s.due("passes", x.has(5), 1);
        s.due("the pass stays", x.passed(0, 0), 9);
        s.due("the coin stays", x.has(4), 20);
        s.due("least", x.least(2, 0), 29);
        s.due("undo the coin", x.undo(), true);
        s.due("coin", x.has(4), 0);
        s.due("least", x.least(2, 0), 9);
        s.due("undo the pass", x.undo(), true);
        s.due("passes", x.has(5), 0);
        s.due("times", x.times(2, 9), 0);
        s.due("none is refused", x.status(4), 0);
        EdgesOfBooks.Draws d = new EdgesOfBooks.Draws(1);
        for (int n = 0; n < 9 * 4; n++) {
            d.draw(1);
        }
        int[] lots = new int[9];
        for (int n = 1; n <= 9; n++) {
            x.pass(n, 0, 0);
            for (int line = 0; line < 9; line++) {
                lots[line] = d.draw(n) == 0 ? n : lots[line];
            }
        }
        s.dueRow("the seed stayed", x::lot, lots);
        s.of("31", "false, refused (4), when none can be.");
        HoodBook y = new HoodBook();
        s.due("without a night", y.undo(), false);
        Check.open(y, B);
        s.due("nothing yet", y.undo(), false);
        s.due("status(4)", y.status(4), 2);
        y.pass(1, 1, 1);
        y.undo();
        s.due("nothing more", y.undo(), false);
        s.due("status(4)", y.status(4), 3);
        y.pass(64, 0, 0);
        y.toss(0);
        y.night();
        y.seed(5);
        s.due("no acts are these", y.undo(), false);
        s.due("status(4)", y.status(4), 4);
    }

    private static void seed(Sentences s) {
        s.of("32", "The seed: true;");
        HoodBook x = Check.opened("book lines 9 rows 1;");
        int[] lots = new int[9];
        for (int seed : new int[] {0, 77, MAX}) {
            s.due("seed", x.seed(seed), true);
            Check.open(x, "book lines 9 rows 1;");
            EdgesOfBooks.Draws d = new EdgesOfBooks.Draws(seed);
            for (int n = 1; n <= 9; n++) {
                x.pass(n, 0, 0);
                for (int line = 0; line < 9; line++) {
                    lots[line] = d.draw(n) == 0 ? n : lots[line];
                }
            }
            s.dueRow("lots by " + seed, x::lot, lots);
        }
        s.due("none is refused", x.status(5), 0);
        s.due("without a night", new HoodBook().seed(5), true);
        s.of("32", "false, refused (5), when it is below 0.");
        HoodBook y = Check.opened("book lines 9 rows 1;");
        y.seed(MAX);
        s.due("seed(-1)", y.seed(-1), false);
        s.due("seed(min)", y.seed(MIN), false);
        s.due("status(5)", y.status(5), 2);
        for (int n = 1; n <= 9; n++) {
            y.pass(n, 0, 0);
        }
        s.dueRow("the seed stays", y::lot, lots);
        s.of("32", "(It is 1 at first.)");
        HoodBook one = Check.opened("book lines 9 rows 1;");
        EdgesOfBooks.Draws d = new EdgesOfBooks.Draws(1);
        for (int n = 1; n <= 9; n++) {
            one.pass(n, 0, 0);
            for (int line = 0; line < 9; line++) {
                lots[line] = d.draw(n) == 0 ? n : lots[line];
            }
        }
        s.dueRow("lots", one::lot, lots);
    }

    private static int[] closed(int... bytes) {
        int[] whole = Arrays.copyOf(bytes, bytes.length + 1);
        int c = 211;
        for (int b : bytes) {
            c = (3 * c + b) % 251;
        }
        whole[bytes.length] = c;
        return whole;
    }

    private static void imageTerm(Sentences s) {
        s.of("IV", "AN IMAGE: the COIN;");
        HoodBook x = Check.opened("book lines 2 rows 1;" + "hoods 85 from 63 step 0 gives 99 gate 1;".repeat(3) + "coin 99;");
        s.due("coin 99", Check.octets(x)[0], 99);
        x.toss(0);
        s.due("coin 0", Check.octets(x)[0], 0);
        s.of("IV", "how many PASSES (two bytes, the higher first);");
        s.dueRow("none", k -> x.octet(1 + k), 0, 0);
        x.night();
        x.image();
        s.dueRow("255", k -> x.octet(1 + k), 0, 255);
        x.pass(62, 98, 0);
        x.image();
        s.dueRow("256", k -> x.octet(1 + k), 1, 0);
        HoodBook full = Check.opened(B + "hoods 80 from 0 step 0 gives 0 gate 0;".repeat(5));
        full.night();
        full.image();
        s.dueRow("400", k -> full.octet(1 + k), 1, 144);
        s.of("IV", "for each HOOD, what it gave, its GATE;");
        s.dueRow("the first", k -> x.octet(3 + k), 63, 99, 1);
        s.dueRow("the last", k -> x.octet(3 + 3 * 255 + k), 62, 98, 0);
        s.of("IV", "for each LINE 0 .. L - 1 its LOT (255: none);");
        s.due("line 0", x.octet(3 + 3 * 256), x.lot(0));
        s.due("line 1", x.octet(4 + 3 * 256), x.lot(1));
        HoodBook y = Check.opened("book lines 9 rows 1;");
        y.image();
        for (int line = 0; line < 9; line++) {
            s.due("none", y.octet(3 + line), 255);
        }
        y.pass(5, 0, 0);
        y.image();
        for (int line = 0; line < 9; line++) {
            s.due("the first of all", y.octet(6 + line), 5);
        }
        s.of("IV", "last a byte: all ahead from 211 on, c = (3 c + it) mod 251.");
        int[] bytes = Check.octets(y);
        s.due("of one pass", bytes[15], closed(Arrays.copyOf(bytes, 15))[15]);
        HoodBook none = new HoodBook();
        none.image();
        s.due("of three noughts", none.octet(3), 175);
        for (int coin = 1; coin < 100; coin++) {
            y.toss(coin);
            y.image();
            s.due("by coin " + coin, y.octet(15), closed(coin, 0, 1, 5, 0, 0, 5, 5, 5, 5, 5, 5, 5, 5, 5)[15]);
        }
    }

    private static void image(Sentences s) {
        s.of("34", "AN IMAGE is written: how many bytes.");
        s.due("without a night", new HoodBook().image(), 4);
        s.due("one line", Check.opened(B).image(), 5);
        HoodBook x = Check.opened("book lines 9 rows 1;" + "hoods 80 from 0 step 0 gives 0 gate 0;".repeat(5));
        s.due("nine lines", x.image(), 13);
        x.pass(1, 1, 1);
        s.due("one pass", x.image(), 16);
        x.undo();
        x.night();
        s.due("400 passes", x.image(), 1213);
        x.undo();
        s.due("none again", x.image(), 13);
    }

    private static void octet(Sentences s) {
        s.of("35", "Byte k of the latest image();");
        HoodBook x = Check.opened(B + "coin 9;");
        x.image();
        x.toss(8);
        x.pass(1, 2, 0);
        s.due("as it was written", x.octet(0), 9);
        s.due("as it was written", x.octet(2), 0);
        Check.open(x, B);
        s.due("though another night came", x.octet(0), 9);
        x.image();
        s.due("the latest", x.octet(0), 0);
        s.of("35", "NONE when there is none such.");
        s.due("ahead of any", new HoodBook().octet(0), -1);
        s.due("the last", x.octet(4), closed(0, 0, 0, 255)[4]);
        for (int bad : new int[] {-1, 5, 1213, MIN, MAX}) {
            s.due("octet(" + bad + ")", x.octet(bad), -1);
        }
        x.pass(1, 1, 0);
        x.image();
        s.due("a longer one", x.octet(7) >= 0, true);
        x.undo();
        x.image();
        s.due("a shorter one", x.octet(5), -1);
    }

    private static boolean puts(HoodBook x, int... bytes) {
        Check.write(x, bytes);
        return x.on();
    }

    private static HoodBook two() {
        return Check.opened("book lines 2 rows 1;mix hood+coin;");
    }

    private static void onTaken(Sentences s) {
        s.of("36", "The tape (it goes) is AN IMAGE of this NIGHT: true,");
        HoodBook x = two();
        s.due("without passes", puts(x, closed(0, 0, 0, 255, 255)), true);
        s.due("the tape is gone", x.end(1), false);
        int[] bytes = new int[3 + 1200 + 9];
        bytes[1] = 1;
        bytes[2] = 144;
        for (int k = 0; k < 400; k++) {
            bytes[3 + 3 * k] = k * 5 % 64;
            bytes[4 + 3 * k] = k % 100;
            bytes[5 + 3 * k] = k % 2;
        }
        for (int line = 0; line < 9; line++) {
            bytes[1203 + line] = 63 - line;
        }
        bytes = closed(bytes);
        HoodBook y = Check.opened("book lines 9 rows 3;");
        s.due("400 passes", puts(y, bytes), true);
        sameImage(s, y, bytes);
        s.due("a tape of noughts alone", puts(x, 0, 0, 0, 0, 0, 0), false);
        s.due("the tape is gone", x.end(1), false);
        s.due("lines of another night", puts(x, closed(0, 0, 0, 255)), false);
        s.due("lines of another night", puts(x, closed(0, 0, 0, 255, 255, 255)), false);
        s.of("36", "all is as it tells,");
        x.pass(50, 50, 0);
        x.least(2, 0);
        s.due("on", puts(x, closed(42, 0, 2, 63, 99, 1, 5, 7, 0, 63, 5)), true);
        s.dueRow("has", x::has, 2, 1, 0, 0, 42, 2, 2, 0);
        s.dueRow("hoods", k -> x.passed(k, 0), 63, 5, -1);
        s.dueRow("gifts", k -> x.passed(k, 1), 99, 7, -1);
        s.dueRow("gates", k -> x.passed(k, 2), 1, 0, -1);
        s.dueRow("lots", x::lot, 63, 5, -1);
        s.dueRow("least", k -> x.least(2, k), 47, 105, -1);
        s.due("times", x.times(2, 50), 0);
        s.due("mark", x.mark(0, 0), 42);
        s.due("the coin that lies", puts(x, closed(42, 0, 2, 1, 9, 1, 2, 8, 0, 1, 2)), true);
        s.dueRow("least", k -> x.least(2, k), 43, 44, -1);
        s.due("times", x.times(2, 63), 0);
        s.due("on", puts(x, closed(7, 0, 0, 255, 255)), true);
        s.due("nobody", x.truth(2, 0), 0);
        s.due("no lot", x.lot(0), -1);
        s.of("36", "nothing can be undone;");
        x.pass(1, 1, 1);
        x.toss(9);
        s.due("on", puts(x, closed(7, 0, 0, 255, 255)), true);
        s.due("acts", x.has(7), 0);
        s.due("undo", x.undo(), false);
        x.pass(1, 1, 1);
        s.due("undo", x.undo(), true);
        s.due("undo", x.undo(), false);
        s.due("as the image told", x.has(4), 7);
    }

    private static void refuses(Sentences s, String why, int... bytes) {
        HoodBook x = two();
        s.due("on, " + why, puts(x, bytes), false);
        s.due("status(5)", x.status(5), 1);
    }

    private static void takes(Sentences s, String why, int... bytes) {
        HoodBook x = two();
        s.due("on, " + why, puts(x, bytes), true);
        s.due("status(5)", x.status(5), 0);
        sameImage(s, x, bytes);
    }

    /** Of a long image only some bytes, as an object is made for 512 calls. */
    private static void sameImage(Sentences s, HoodBook x, int[] bytes) {
        s.due("its image", x.image(), bytes.length);
        int step = 1 + bytes.length / 200;
        for (int k = bytes.length - 1; k >= 0; k -= step) {
            s.due("octet(" + k + ")", x.octet(k), bytes[k]);
        }
    }

    private static void onRefused(Sentences s) {
        s.of("36", "false, refused (5), when it is none");
        int[] good = closed(42, 0, 2, 63, 99, 1, 5, 7, 0, 63, 5);
        takes(s, "a good one", good);
        for (int n = 0; n < good.length; n++) {
            refuses(s, "too short by " + (good.length - n), Arrays.copyOf(good, n));
            int[] other = good.clone();
            other[n] ^= 1;
            refuses(s, "byte " + n + " another", other);
        }
        refuses(s, "too long", Arrays.copyOf(good, good.length + 1));
        refuses(s, "too long", closed(good));
        refuses(s, "a pass too few", closed(42, 0, 1, 63, 99, 1, 5, 7, 0, 63, 63));
        refuses(s, "a pass too many", closed(42, 0, 3, 63, 99, 1, 5, 7, 0, 63, 5));
        int[] round = good;
        for (int coin = 0; round[11] > 4; coin++) {
            round = closed(coin, 0, 2, 63, 99, 1, 5, 7, 0, 63, 5);
        }
        takes(s, "the last byte small", round);
        round = round.clone();
        round[11] += 251;
        refuses(s, "the last byte above 250", round);
        s.of("36", "(COIN, gifts 99, 400 PASSES, HOODS 63, GATES 1 at most;");
        takes(s, "the most", closed(99, 0, 1, 63, 99, 1, 63, 63));
        takes(s, "the least", closed(0, 0, 1, 0, 0, 0, 0, 0));
        refuses(s, "coin 100", closed(100, 0, 1, 63, 99, 1, 63, 63));
        refuses(s, "coin 255", closed(255, 0, 1, 63, 99, 1, 63, 63));
        refuses(s, "gift 100", closed(99, 0, 1, 63, 100, 1, 63, 63));
        refuses(s, "gift 255", closed(99, 0, 1, 63, 255, 1, 63, 63));
        refuses(s, "hood 64", closed(99, 0, 2, 64, 99, 1, 63, 99, 1, 63, 63));
        refuses(s, "hood 64 behind", closed(99, 0, 2, 63, 99, 1, 64, 99, 1, 63, 63));
        refuses(s, "hood 64 with its lots", closed(99, 0, 1, 64, 99, 1, 64, 64));
        refuses(s, "gate 2", closed(99, 0, 1, 63, 99, 2, 63, 63));
        refuses(s, "gate 255", closed(99, 0, 1, 63, 99, 255, 63, 63));
        int[] most = new int[3 + 1200 + 2];
        most[1] = 1;
        most[2] = 144;
        takes(s, "400 passes", closed(most));
        for (int count : new int[] {255, 256, 257, 399}) {
            int[] some = new int[3 + 3 * count + 2];
            some[1] = count / 256;
            some[2] = count % 256;
            takes(s, count + " passes", closed(some));
        }
        int[] more = new int[3 + 1203 + 2];
        more[1] = 1;
        more[2] = 145;
        refuses(s, "401 passes", closed(more));
        most[2] = 145;
        refuses(s, "401 told", closed(most));
        most[1] = 255;
        most[2] = 255;
        refuses(s, "65535 told", closed(most));
    }

    private static void onLots(Sentences s) {
        s.of("36", "LOTS that are HOODS that passed, none just without PASSES),");
        takes(s, "of both", closed(0, 0, 2, 5, 0, 0, 6, 0, 1, 5, 6));
        takes(s, "of the last", closed(0, 0, 2, 5, 0, 0, 6, 0, 1, 6, 6));
        takes(s, "none", closed(0, 0, 0, 255, 255));
        refuses(s, "the first did not pass", closed(0, 0, 2, 5, 0, 0, 6, 0, 1, 7, 6));
        refuses(s, "the last did not pass", closed(0, 0, 2, 5, 0, 0, 6, 0, 1, 5, 7));
        refuses(s, "a gift is no hood", closed(0, 0, 1, 5, 8, 1, 5, 8));
        refuses(s, "the coin is no hood", closed(7, 0, 1, 5, 8, 1, 5, 7));
        refuses(s, "none with passes", closed(0, 0, 2, 5, 0, 0, 6, 0, 1, 5, 255));
        refuses(s, "none with passes", closed(0, 0, 2, 5, 0, 0, 6, 0, 1, 255, 255));
        refuses(s, "one without passes", closed(0, 0, 0, 255, 0));
        refuses(s, "one without passes", closed(0, 0, 0, 0, 255));
        refuses(s, "a number that is no hood, without passes", closed(0, 0, 0, 255, 254));
    }

    private static void onStaying(Sentences s) {
        s.of("36", "or without a NIGHT,");
        HoodBook none = new HoodBook();
        s.due("an image of no lines", puts(none, closed(0, 0, 0)), false);
        s.due("an image of one line", puts(none, closed(0, 0, 0, 255)), false);
        s.due("status(5)", none.status(5), 2);
        s.due("coin", none.has(4), 0);
        s.of("36", "all staying.");
        HoodBook x = Check.opened("book lines 2 rows 1;mix hood+coin;coin 7;");
        x.pass(20, 30, 1);
        x.toss(8);
        int[][] bad = {{}, closed(9, 0, 1, 5, 0, 0, 5, 6), closed(9, 0, 1, 5, 0, 2, 5, 5), closed(100, 0, 0, 255, 255)};
        for (int[] b : bad) {
            s.due("on", puts(x, b), false);
            s.dueRow("has", x::has, 2, 1, 0, 0, 8, 1, 1, 2);
            s.dueRow("passed", k -> x.passed(0, k), 20, 30, 1);
            s.dueRow("lots", x::lot, 20, 20);
            s.due("least", x.least(2, 0), 28);
            s.due("the tape is gone", x.end(1), false);
        }
        s.due("undo", x.undo(), true);
        s.due("coin", x.has(4), 7);
    }

    private static void status(Sentences s) {
        s.of("37", "How many were refused: 0 feed(), end(); 1 open(); 2 pass(), toss(); 3 night(); 4 undo(); 5 seed(), on().");
        HoodBook x = new HoodBook();
        s.dueRow("none", x::status, 0, 0, 0, 0, 0, 0);
        x.end(-1);
        s.dueRow("end()", x::status, 1, 0, 0, 0, 0, 0);
        for (int k = 0; k < 81; k++) {
            x.feed(0, 0, 0, 0, 0);
        }
        s.dueRow("feed()", x::status, 2, 0, 0, 0, 0, 0);
        x.open();
        s.dueRow("open()", x::status, 2, 1, 0, 0, 0, 0);
        x.pass(0, 0, 0);
        s.dueRow("pass()", x::status, 2, 1, 1, 0, 0, 0);
        x.toss(1);
        s.dueRow("toss()", x::status, 2, 1, 2, 0, 0, 0);
        x.night();
        s.dueRow("night()", x::status, 2, 1, 2, 1, 0, 0);
        x.undo();
        s.dueRow("undo()", x::status, 2, 1, 2, 1, 1, 0);
        x.seed(-1);
        s.dueRow("seed()", x::status, 2, 1, 2, 1, 1, 1);
        x.on();
        s.dueRow("on()", x::status, 2, 1, 2, 1, 1, 2);
        x.ask();
        x.octet(-1);
        x.mark(-1, -1);
        x.same(-2);
        x.status(9);
        s.dueRow("no others", x::status, 2, 1, 2, 1, 1, 2);
        Check.open(x, B);
        x.pass(1, 1, 1);
        s.dueRow("a night does not change them", x::status, 2, 1, 2, 1, 1, 2);
        s.of("37", "NONE for others.");
        for (int bad : new int[] {-1, 6, MIN, MAX}) {
            s.due("status(" + bad + ")", x.status(bad), -1);
        }
    }
}
