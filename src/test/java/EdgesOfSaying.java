/** Terms III and promises 17 to 27: what the books say, the truth, how far out they are. */
final class EdgesOfSaying {
    private static final int MIN = Integer.MIN_VALUE;
    private static final int MAX = Integer.MAX_VALUE;
    private static final int[] NO_BOOKS = {-1, 3, MIN, MAX};
    private static final int[] NO_HOODS = {-1, 64, MIN, MAX};
    private static final int[] NO_KINDS = {-1, 6, MIN, MAX};
    private static final int[] NO_WHATS = {-1, 2, MIN, MAX};
    // Hoods 0 and 63 have the same marks in lines 2 and 3, no two others have both.
    private static final String ENDS = EdgesOfBooks.inLine(2, "hood-hood/63*63") + "+"
        + EdgesOfBooks.inLine(3, "(hood-hood/63*63)/9");

    private EdgesOfSaying() {
    }

    static void all(Sentences s) {
        unlike(s);
        runs(s);
        toldAndWas(s);
        middle(s);
        alike(s);
        truthTerm(s);
        outByCounts(s);
        outByHoods(s);
        outByGifts(s);
        fewTerm(s);
        bestTerm(s);
        crossTerm(s);
        sameTerm(s);
        saysCall(s);
        toldCall(s);
        wasCall(s);
        alikeCall(s);
        truthCall(s);
        timesCall(s);
        outCall(s);
        fewCall(s);
        bestCall(s);
        crossCall(s);
        sameCall(s);
    }

    private static HoodBook book(int lines, int rows, String mix, int... hoods) {
        return EdgesOfBooks.book(lines, rows, mix, hoods);
    }

    private static HoodBook giving(int lines, int... gifts) {
        HoodBook x = book(lines, 1, "0");
        for (int gift : gifts) {
            x.pass(0, gift, 0);
        }
        return x;
    }

    /** A book with all the passes that there may be: hood 1 gives 7, 400 times. */
    private static HoodBook full() {
        HoodBook x = Check.opened("book lines 1 rows 1;" + "hoods 80 from 1 step 0 gives 7 gate 0;".repeat(5));
        x.night();
        return x;
    }

    private static void unlike(Sentences s) {
        s.of("III", "What a BOOK SAYS: UNLIKE: how many MARKS LEAST has, if fewer than L;");
        HoodBook x = book(3, 1, "hood/2*10+10");
        s.due("none", x.says(2, 0), 0);
        x.pass(4, 0, 0);
        x.pass(5, 0, 0);
        s.due("one mark of two hoods", x.says(2, 0), 1);
        x.pass(0, 0, 0);
        s.due("one fewer than L", x.says(2, 0), 2);
        s.due("eight of nine", book(9, 1, "hood", 1, 2, 3, 4, 5, 6, 7, 8).says(2, 0), 8);
        s.of("III", "else (L - 1) times 1000 divided by the last of them, rounded down (0 by 0).");
        x.pass(62, 0, 0);
        s.due("2000 by 320", x.says(2, 0), 6);
        x.pass(63, 0, 0);
        x.pass(2, 0, 0);
        s.due("2000 by 30", x.says(2, 0), 66);
        s.due("nine of nine", book(9, 1, "hood", 1, 2, 3, 4, 5, 6, 7, 8, 9).says(2, 0), 888);
        s.due("1000 by 1", book(2, 1, "hood", 0, 1).says(2, 0), 1000);
        s.due("1000 by 999", book(2, 1, "999*hood", 0, 1).says(2, 0), 1);
        s.due("0 by 5", book(1, 1, "5", 0).says(2, 0), 0);
        s.due("0 by 0", book(1, 1, "0", 0).says(2, 0), 0);
    }

    private static void runs(Sentences s) {
        s.of("III", "RUNS: 2 to the RUN, 0 without PASSES.");
        s.due("without passes", book(1, 1, "0").says(2, 1), 0);
        s.due("run 0", book(1, 1, "1", 0).says(2, 1), 1);
        s.due("run 1", book(1, 1, "2", 0).says(2, 1), 2);
        s.due("run 9", book(1, 1, "512", 0).says(2, 1), 512);
        HoodBook x = book(1, 1, "0", 0);
        s.due("run 10", x.says(2, 1), 1024);
        s.due("a book without passes", x.says(1, 1), 0);
        x.undo();
        s.due("undone", x.says(2, 1), 0);
    }

    private static void toldAndWas(Sentences s) {
        s.of("III", "TOLD of a HOOD: the least of its numbers in CROSSED.");
        for (int row = 0; row < 3; row++) {
            HoodBook x = book(9, 3, EdgesOfBooks.inLine(2 + row, "hood"), 1, 2, 2);
            s.dueRow("the row that has least", k -> x.told(2, k), 0, 1, 2, 0, 0, 0, 0, 0, 0, 0, 1, 2);
            s.due("told of 63", x.told(2, 63), 0);
        }
        HoodBook one = book(9, 1, EdgesOfBooks.inLine(3, "hood"), 1, 2, 2);
        s.dueRow("one row alone", k -> one.told(2, k), 3, 3, 3, 3);
        HoodBook all = full();
        s.due("told of 400", all.told(0, 63), 400);
        s.of("III", "WAS of a HOOD: whether both its BITS are set.");
        for (int line = 5; line < 7; line++) {
            HoodBook x = book(9, 1, EdgesOfBooks.inLine(line, "hood"), 1);
            s.dueRow("was", k -> x.was(2, k), 1, 1, 0, 0);
            s.due("was of 63", x.was(2, 63), 0);
        }
        s.due("none is set", book(9, 1, "0").was(2, 0), 0);
    }

    private static void middle(Sentences s) {
        s.of("III", "MIDDLE: the least gift of the BIN in which, of all gifts rising, the one behind half of the others lies "
            + "(of n the one of number n / 2, rounded down, 0 and on).");
        int[] gifts = {50, 10, 20, 99, 99, 99, 0};
        int[] said = {45, 45, 12, 45, 45, 89, 45};
        int[] middle = {50, 50, 20, 50, 50, 99, 50};
        HoodBook x = book(9, 1, "0");
        for (int k = 0; k < gifts.length; k++) {
            x.pass(0, gifts[k], 0);
            s.due("said of " + (k + 1), x.says(2, 2), said[k]);
            s.due("the middle gift of " + (k + 1), x.truth(2, 4), middle[k]);
        }
        s.due("of one bin", giving(1, 99).says(2, 2), 0);
        s.due("the end of a bin", giving(2, 49).says(2, 2), 0);
        s.due("the begin of a bin", giving(2, 50).says(2, 2), 50);
        s.due("bin 1 of 3", giving(3, 34).says(2, 2), 34);
        s.due("bin 2 of 3", giving(3, 99).says(2, 2), 67);
        s.due("bin 8 of 9", giving(9, 99).says(2, 2), 89);
        s.due("of 400", full().truth(2, 4), 7);
    }

    private static void alike(Sentences s) {
        s.of("III", "ALIKE: in how many LINES the SIGNS of GATE 0 and GATE 1 are one (0, if one of these has no PASSES).");
        HoodBook x = book(2, 1, "hood*line");
        s.due("none has", x.alike(), 0);
        x.pass(5, 0, 0);
        s.due("gate 0 alone", x.alike(), 0);
        x.pass(6, 0, 1);
        s.due("line 0", x.alike(), 1);
        x.pass(5, 0, 1);
        s.due("both lines", x.alike(), 2);
        HoodBook y = book(9, 1, "5");
        y.pass(5, 0, 1);
        s.due("gate 1 alone", y.alike(), 0);
        y.pass(6, 0, 0);
        s.due("nine lines", y.alike(), 9);
        HoodBook none = book(1, 1, "hood");
        none.pass(5, 0, 1);
        none.pass(6, 0, 0);
        s.due("no line", none.alike(), 0);
        HoodBook first = book(1, 1, "hood*line");
        first.pass(5, 0, 1);
        first.pass(5, 0, 0);
        s.due("lines below L alone", first.alike(), 1);
    }

    private static void truthTerm(Sentences s) {
        s.of("III", "The TRUTH is by the PASSES.");
        HoodBook x = book(1, 1, "0", 3, 3, 4);
        s.dueRow("truth", k -> x.truth(2, k), 3, 2, 3, 2, 0);
        x.toss(50);
        s.dueRow("by another coin", k -> x.truth(2, k), 3, 2, 3, 2, 0);
        x.undo();
        x.undo();
        s.dueRow("undone", k -> x.truth(2, k), 2, 1, 3, 2, 0);
    }

    private static void outByCounts(Sentences s) {
        s.of("III", "How far a BOOK is OUT: kind 0 by UNLIKE, 1 by RUNS: how far from how many unlike HOODS passed;");
        s.due("unlike above", book(2, 1, "hood*10", 1, 2).out(2, 0), 48);
        s.due("unlike below", book(1, 1, "hood", 1, 2, 2).out(2, 0), 2);
        s.due("unlike right", book(3, 1, "hood", 1, 2, 2).out(2, 0), 0);
        s.due("runs above", book(1, 1, "0", 5).out(2, 1), 1023);
        s.due("runs below", book(1, 1, "1", 1, 2, 3, 3).out(2, 1), 2);
        s.due("runs right", book(1, 1, "2", 1, 2, 2).out(2, 1), 0);
        HoodBook gates = book(3, 1, "1", 1, 2);
        gates.pass(1, 0, 1);
        s.dueRow("runs of the books", k -> gates.out(k, 1), 1, 0, 1);
        s.dueRow("unlike of the books", k -> gates.out(k, 0), 1, 0, 1);
    }

    private static void outByHoods(Sentences s) {
        s.of("III", "2 by TOLD: the most that any of the 64 HOODS is told above its TIMES;");
        s.due("of hood 0", book(9, 2, ENDS, 63).out(2, 2), 1);
        s.due("of hood 63", book(9, 2, ENDS, 0, 0).out(2, 2), 2);
        s.due("of none", book(9, 2, ENDS, 7, 7).out(2, 2), 0);
        s.due("of both alike", book(9, 2, ENDS, 0, 63, 63).out(2, 2), 2);
        s.due("400 of all others", full().out(2, 2), 400);
        HoodBook all = Check.opened("book lines 1 rows 1;hoods 64 from 0 step 1 gives 0 gate 0;");
        all.night();
        s.due("all have passed", all.out(2, 2), 63);
        s.of("III", "3 by WAS: how many of the 64 HOODS WERE that have not passed;");
        HoodBook x = book(1, 1, "1", 3, 4, 4);
        x.pass(5, 0, 1);
        s.dueRow("of the books", k -> x.out(k, 3), 62, 63, 61);
        s.due("none of them", book(9, 1, "hood", 3, 4).out(2, 3), 0);
        s.due("hood 0", book(9, 1, "hood-hood/63*63", 63).out(2, 3), 1);
        s.due("hood 63", book(9, 1, "hood-hood/63*63", 0).out(2, 3), 1);
        s.due("all have passed", all.out(2, 3), 0);
    }

    private static void outByGifts(Sentences s) {
        s.of("III", "4 by MIDDLE: how far from the middle gift;");
        s.due("by 99", giving(1, 99).out(2, 4), 99);
        s.due("by 0", giving(1, 0).out(2, 4), 0);
        s.due("by 49", giving(2, 99).out(2, 4), 49);
        s.due("right", giving(2, 50, 50, 0).out(2, 4), 0);
        s.due("without passes", book(1, 1, "0").out(2, 4), 0);
        s.of("III", "5 by OFTEN: how far the number of the HOOD that came oftenest (0, if it has no place) is from its TIMES "
            + "(0 without PASSES).");
        s.due("without passes", book(1, 1, "0").out(2, 5), 0);
        s.due("right", book(2, 1, "0", 4, 2, 4).out(2, 5), 0);
        s.due("one less", book(1, 1, "0", 4, 4, 2).out(2, 5), 1);
        s.due("no place", book(1, 1, "0", 4, 2).out(2, 5), 1);
        s.due("another's place", book(1, 1, "0", 4, 2, 4, 2, 9).out(2, 5), 2);
        s.due("of like ones the first", book(1, 1, "0", 4, 2, 4).out(2, 5), 1);
        s.due("of like ones the first", book(1, 1, "0", 2, 4, 4, 4, 2, 2).out(2, 5), 3);
        s.due("400 times", full().out(2, 5), 0);
        HoodBook gate = book(1, 1, "0", 4);
        s.due("a book without passes", gate.out(1, 5), 0);
    }

    private static void fewTerm(Sentences s) {
        s.of("III", "FEW are the fewest lines (1 .. 9), by which the BOOK of all would be OUT by no more than told.");
        HoodBook eight = book(1, 1, "hood", 1, 2, 3, 4, 5, 6, 7, 8);
        s.due("nine", eight.few(0, 0), 9);
        s.due("nine", eight.few(0, 7), 9);
        s.due("one", eight.few(0, 8), 1);
        HoodBook nine = book(9, 1, "hood", 1, 2, 3, 4, 5, 6, 7, 8, 9);
        s.due("by none", nine.few(0, 8), -1);
        s.due("one", nine.few(0, 9), 1);
        HoodBook gates = book(1, 1, "hood", 1, 2);
        gates.pass(3, 0, 1);
        s.due("the book of all", gates.few(0, 0), 4);
        gates.best(0, 0);
        s.due("by the coin of now, behind best()", gates.few(0, 0), 4);
        s.due("its lines stay", gates.has(0), 1);
        s.due("its book stays", gates.least(2, 1), -1);
        int[] octave = {8, 9, 10, 11, 12, 13, 14, 15};
        String eighths = EdgesOfBooks.inLine(3, "hood/8");
        s.due("with its rows", book(1, 2, eighths, octave).few(2, 7), 7);
        s.due("with its one row", book(1, 1, eighths, octave).few(2, 7), -1);
        s.due("with its one row", book(1, 1, eighths, octave).few(2, 8), 1);
        HoodBook coin = book(1, 1, "hood*coin", 1, 2);
        s.due("by coin 0", coin.few(3, 61), -1);
        s.due("by coin 0", coin.few(3, 62), 1);
        coin.toss(1);
        s.due("by the coin of now", coin.few(3, 0), 8);
        coin.best(3, 0);
        coin.toss(2);
        coin.best(2, 0);
        s.due("by the coin of now", coin.few(3, 0), -1);
    }

    private static void bestTerm(Sentences s) {
        s.of("III", "The BEST coin (0 .. 99) is that by which it would be least OUT; of like ones the first.");
        s.due("coin 99", book(9, 1, "hood*(coin/99)", 1).best(3, 0), 99);
        s.due("coin 0", book(9, 1, "hood*(1-min(1,coin))", 1).best(3, 0), 0);
        HoodBook beyond = book(9, 1, "hood*(coin/100)", 1);
        s.due("no coin 100", beyond.best(3, 0), 0);
        s.due("no coin 100", beyond.best(3, 1), 63);
        HoodBook like = Check.opened("book lines 9 rows 1;mix hood*(coin/40);coin 70;");
        like.pass(1, 0, 0);
        s.due("the first, though another lies", like.best(3, 0), 40);
        s.due("how far", like.best(3, 1), 0);
        s.due("the coin stays", like.has(4), 70);
        s.due("the book stays", like.least(2, 0), 1);
        // Marks 2 up to coin 3, 4 up to 5, 8 at 6, 16 from 7 on; runs likewise.
        String rising = "8/max(1,8-coin)*2";
        HoodBook three = book(1, 1, rising, 1, 2, 3);
        s.due("of like ones the first", three.best(1, 0), 0);
        s.due("one out", three.best(1, 1), 1);
        HoodBook five = book(1, 1, rising, 1, 2, 3, 4, 5);
        s.due("least out", five.best(1, 0), 4);
        s.due("one out", five.best(1, 1), 1);
    }

    private static void crossTerm(Sentences s) {
        s.of("III", "To CROSS is the HOOD by whose PASS now (giving 0, at GATE 0) the BOOK of all would be OUT most; of like "
            + "ones the first.");
        HoodBook last = book(1, 1, "64-hood");
        s.due("hood 0 has 6 noughts", last.cross(1, 0), 0);
        s.due("how far", last.cross(1, 1), 63);
        HoodBook end = book(1, 1, "hood+1");
        s.due("hood 63 has 6", end.cross(1, 0), 63);
        s.due("how far", end.cross(1, 1), 63);
        s.due("of like ones the first", book(1, 1, "max(1,hood/20*4)", 0).cross(1, 0), 40);
        HoodBook none = book(1, 1, "0");
        s.due("giving 0", none.cross(4, 1), 0);
        s.due("of like ones the first", none.cross(4, 0), 0);
        s.due("giving 0", giving(1, 40).cross(4, 1), 40);
        HoodBook less = giving(1, 0, 99);
        s.due("less out by every one", less.cross(4, 1), 0);
        s.due("of like ones the first", less.cross(4, 0), 0);
        HoodBook least = book(3, 1, "630-hood*10", 60, 61);
        s.due("with the marks that there are", least.cross(0, 0), 62);
        s.due("2000 by 30 less 3", least.cross(0, 1), 63);
        HoodBook lower = book(3, 1, "hood*10+10", 2, 1);
        s.due("with the marks that there are", lower.cross(0, 0), 0);
        s.due("2000 by 30 less 3", lower.cross(0, 1), 63);
        HoodBook rows = book(9, 3, EdgesOfBooks.inLine(4, "hood/7"), 60, 61);
        s.due("with its rows", rows.cross(2, 0), 56);
        s.due("three told of 57", rows.cross(2, 1), 3);
        HoodBook bits = book(9, 1, EdgesOfBooks.inLine(5, "hood/30*20+10") + "+" + EdgesOfBooks.inLine(6, "hood/30*20+40"),
            30, 31);
        s.due("with the bits that there are", bits.cross(3, 0), 0);
        s.due("28 and 29", bits.cross(3, 1), 57);
        HoodBook x = book(1, 1, "1", 5);
        x.pass(6, 0, 1);
        x.best(3, 0);
        s.due("the book of all", x.cross(3, 1), 62);
        s.due("one that has passed", x.cross(3, 0), 5);
        HoodBook coin = book(1, 1, "coin+1", 1, 2, 3);
        coin.best(1, 0);
        s.due("by the coin of now, behind best()", coin.cross(1, 1), 3);
        s.due("nobody passes", x.has(5), 2);
        s.due("no act", x.has(7), 2);
        s.due("the book stays", x.truth(0, 0), 1);
        s.due("the book stays", x.often(2, 0, 0), -1);
    }

    private static void sameTerm(Sentences s) {
        s.of("III", "SAME are HOODS whose PASS now would leave LEAST, RUN, BITS, SIGNS of the BOOK of all as they are.");
        HoodBook least = book(2, 1, EdgesOfBooks.inLine(0, "hood"), 60, 61);
        s.dueRow("least full", least::same, 60, 61, 62, 63, -1);
        HoodBook between = book(2, 1, EdgesOfBooks.inLine(0, "hood"), 58, 61);
        s.dueRow("one between changes least", between::same, 58, 61, 62, 63, -1);
        HoodBook room = book(3, 1, EdgesOfBooks.inLine(0, "hood"), 58, 61);
        s.dueRow("least has room", room::same, 58, 61, -1);
        room.undo();
        s.dueRow("least has room again", room::same, 58, -1);
        HoodBook nine = book(9, 1, EdgesOfBooks.inLine(0, "hood"), 50, 51, 52, 53, 54, 55, 56, 57, 58);
        s.due("nine marks", nine.same(-1), 14);
        HoodBook run = book(1, 1, EdgesOfBooks.inLine(1, "hood+1"), 15);
        s.due("run 4 or less", run.same(-1), 62);
        s.dueRow("not 31, not 63", k -> run.same(30 + k), 30, 32, 33);
        for (int line = 5; line < 7; line++) {
            HoodBook bits = book(5, 1, EdgesOfBooks.inLine(line, "hood"), 7, 60);
            s.dueRow("bits 0, 7, 20 of 40", bits::same, 0, 7, 20, 40, 47, 60, -1);
        }
        HoodBook signs = book(3, 1, EdgesOfBooks.inLine(2, "hood"), 60);
        s.dueRow("no sign less", signs::same, 60, 61, 62, 63, -1);
        HoodBook above = book(2, 1, EdgesOfBooks.inLine(2, "hood"), 60);
        s.due("lines below L alone", above.same(-1), 64);
        HoodBook gates = book(1, 1, EdgesOfBooks.inLine(0, "hood"));
        gates.pass(61, 0, 1);
        s.dueRow("the book of all", gates::same, 61, 62, 63, -1);
    }

    private static void saysCall(Sentences s) {
        s.of("17", "What a BOOK SAYS: 0 UNLIKE, 1 RUNS, 2 MIDDLE (NONE without PASSES), 3 the HOOD of the greatest number in "
            + "OFTEN (the first place; NONE).");
        HoodBook x = book(3, 1, "hood");
        for (int book = 0; book < 3; book++) {
            int b = book;
            s.dueRow("without passes", k -> x.says(b, k), 0, 0, -1, -1);
        }
        s.dueRow("nine lines without passes", k -> book(9, 3, "0").says(2, k), 0, 0, -1, -1);
        x.pass(12, 99, 1);
        x.pass(4, 99, 1);
        s.dueRow("says", k -> x.says(1, k), 2, 4, 67, 12);
        s.dueRow("a book without passes", k -> x.says(0, k), 0, 0, -1, -1);
        x.pass(4, 99, 1);
        s.due("the greatest number", x.says(1, 3), 4);
        x.pass(12, 99, 1);
        s.due("the first place", x.says(1, 3), 12);
        s.due("hood 0 is one", book(1, 1, "0", 0).says(2, 3), 0);
        s.due("all places are empty", book(1, 1, "0", 1, 2).says(2, 3), -1);
        s.of("17", "NONE when there is none such, or for others.");
        for (int bad : NO_BOOKS) {
            s.dueRow("book " + bad, k -> x.says(bad, k), -1, -1, -1, -1);
        }
        for (int bad : new int[] {-1, 4, MIN, MAX}) {
            s.due("what " + bad, x.says(1, bad), -1);
        }
        s.dueRow("without a night", k -> new HoodBook().says(2, k), -1, -1, -1, -1);
    }

    private static void toldCall(Sentences s) {
        s.of("18", "TOLD of a HOOD by a BOOK;");
        HoodBook x = book(2, 1, "hood", 0, 63, 63);
        x.pass(62, 0, 1);
        s.dueRow("told of 0", k -> x.told(k, 0), 1, 1, 2);
        s.dueRow("told of 63", k -> x.told(k, 63), 2, 0, 2);
        s.of("18", "NONE when there are none such.");
        for (int bad : NO_BOOKS) {
            s.due("book " + bad, x.told(bad, 0), -1);
        }
        for (int bad : NO_HOODS) {
            s.due("hood " + bad, x.told(2, bad), -1);
        }
        s.due("without a night", new HoodBook().told(2, 0), -1);
    }

    private static void wasCall(Sentences s) {
        s.of("19", "WAS of a HOOD by a BOOK: 1 or 0;");
        HoodBook x = book(8, 1, "hood", 0);
        x.pass(63, 0, 1);
        s.dueRow("was of 0", k -> x.was(k, 0), 1, 0, 1);
        s.dueRow("was of 63", k -> x.was(k, 63), 0, 1, 1);
        s.dueRow("was of 1", k -> x.was(k, 1), 0, 0, 0);
        s.of("19", "NONE when there are none such.");
        for (int bad : NO_BOOKS) {
            s.due("book " + bad, x.was(bad, 0), -1);
        }
        for (int bad : NO_HOODS) {
            s.due("hood " + bad, x.was(2, bad), -1);
        }
        s.due("without a night", new HoodBook().was(2, 0), -1);
    }

    private static void alikeCall(Sentences s) {
        s.of("20", "ALIKE;");
        HoodBook x = book(3, 1, "line");
        s.due("without passes", x.alike(), 0);
        x.pass(1, 0, 0);
        x.pass(2, 0, 1);
        s.due("all lines", x.alike(), 3);
        s.of("20", "NONE without a NIGHT.");
        HoodBook y = new HoodBook();
        s.due("without a night", y.alike(), -1);
        Check.open(y, "x");
        s.due("a night with a fault", y.alike(), -1);
    }

    private static void truthCall(Sentences s) {
        s.of("21", "The TRUTH of a BOOK: 0 PASSES, 1 unlike HOODS, 2 the HOOD that came oftenest (of like ones the first; NONE "
            + "without PASSES), 3 its TIMES (NONE likewise), 4 the middle gift (NONE without PASSES).");
        HoodBook x = book(1, 1, "0");
        for (int book = 0; book < 3; book++) {
            int b = book;
            s.dueRow("without passes", k -> x.truth(b, k), 0, 0, -1, -1, -1);
        }
        x.pass(63, 99, 1);
        s.dueRow("one pass", k -> x.truth(1, k), 1, 1, 63, 1, 99);
        s.dueRow("a book without passes", k -> x.truth(0, k), 0, 0, -1, -1, -1);
        x.pass(0, 0, 1);
        s.dueRow("of like ones the first", k -> x.truth(1, k), 2, 2, 0, 1, 99);
        x.pass(63, 50, 1);
        s.dueRow("the oftenest", k -> x.truth(2, k), 3, 2, 63, 2, 50);
        x.pass(0, 50, 0);
        s.dueRow("of all", k -> x.truth(2, k), 4, 2, 0, 2, 50);
        s.dueRow("of gate 0", k -> x.truth(0, k), 1, 1, 0, 1, 50);
        HoodBook all = full();
        s.dueRow("400", k -> all.truth(2, k), 400, 1, 1, 400, 7);
        s.of("21", "NONE when there is none such, or for others.");
        for (int bad : NO_BOOKS) {
            s.dueRow("book " + bad, k -> x.truth(bad, k), -1, -1, -1, -1, -1);
        }
        for (int bad : new int[] {-1, 5, MIN, MAX}) {
            s.due("what " + bad, x.truth(2, bad), -1);
        }
        s.dueRow("without a night", k -> new HoodBook().truth(2, k), -1, -1, -1, -1, -1);
    }

    private static void timesCall(Sentences s) {
        s.of("22", "TIMES of a HOOD by a BOOK's PASSES;");
        HoodBook x = book(1, 1, "0", 0, 63, 63);
        x.pass(63, 0, 1);
        s.dueRow("times of 0", k -> x.times(k, 0), 1, 0, 1);
        s.dueRow("times of 63", k -> x.times(k, 63), 2, 1, 3);
        s.dueRow("times of 1", k -> x.times(k, 1), 0, 0, 0);
        s.due("400 times", full().times(2, 1), 400);
        s.of("22", "NONE when there are none such.");
        for (int bad : NO_BOOKS) {
            s.due("book " + bad, x.times(bad, 0), -1);
        }
        for (int bad : NO_HOODS) {
            s.due("hood " + bad, x.times(2, bad), -1);
        }
        s.due("without a night", new HoodBook().times(2, 0), -1);
    }

    private static void outCall(Sentences s) {
        s.of("23", "How far a BOOK is OUT by a kind (0 .. 5);");
        HoodBook x = book(1, 1, "0");
        for (int book = 0; book < 3; book++) {
            int b = book;
            s.dueRow("without passes", k -> x.out(b, k), 0, 0, 0, 0, 0, 0);
        }
        x.pass(9, 60, 1);
        x.pass(8, 70, 1);
        s.dueRow("of gate 1", k -> x.out(1, k), 2, 1022, 2, 62, 70, 1);
        s.dueRow("of gate 0", k -> x.out(0, k), 0, 0, 0, 0, 0, 0);
        s.dueRow("of all", k -> x.out(2, k), 2, 1022, 2, 62, 70, 1);
        s.of("23", "NONE when there is none such, or without a NIGHT.");
        for (int bad : NO_BOOKS) {
            s.dueRow("book " + bad, k -> x.out(bad, k), -1, -1, -1, -1, -1, -1);
        }
        for (int bad : NO_KINDS) {
            s.due("kind " + bad, x.out(2, bad), -1);
        }
        s.dueRow("without a night", k -> new HoodBook().out(2, k), -1, -1, -1, -1, -1, -1);
    }

    private static void fewCall(Sentences s) {
        s.of("24", "FEW lines by a kind (0 .. 5), so that it is OUT by no more than so much (0 .. 9999);");
        HoodBook x = book(1, 1, "0");
        x.pass(9, 60, 1);
        x.pass(8, 70, 1);
        s.dueRow("by the least", k -> x.few(k, 0), -1, -1, -1, -1, -1, 2);
        s.due("by 3, 67 for 70", x.few(4, 3), 3);
        s.due("by 2", x.few(4, 2), -1);
        s.dueRow("by what it is", k -> x.few(k, x.out(2, k)), 1, 1, 1, 1, 1, 1);
        s.dueRow("by the most", k -> x.few(k, 9999), 1, 1, 1, 1, 1, 1);
        s.dueRow("without passes", k -> book(1, 1, "0").few(k, 0), 1, 1, 1, 1, 1, 1);
        s.of("24", "NONE by none, for others, or without a NIGHT.");
        s.due("by none", x.few(1, 1021), -1);
        for (int bad : NO_KINDS) {
            s.due("kind " + bad, x.few(bad, 9999), -1);
        }
        for (int bad : new int[] {-1, 10000, MIN, MAX}) {
            s.dueRow("so much " + bad, k -> x.few(k, bad), -1, -1, -1, -1, -1, -1);
        }
        s.dueRow("without a night", k -> new HoodBook().few(k, 9999), -1, -1, -1, -1, -1, -1);
    }

    private static void bestCall(Sentences s) {
        s.of("25", "The BEST coin by a kind (0 .. 3, 5): which (what 0), how far OUT it is (1).");
        HoodBook none = Check.opened("book lines 1 rows 1;coin 9;");
        HoodBook x = Check.opened("book lines 2 rows 1;mix hood+coin*10;coin 7;");
        x.pass(0, 0, 0);
        x.pass(5, 0, 1);
        s.due("by unlike, 1000 by 335", x.best(0, 0), 33);
        s.due("by unlike", x.best(0, 1), 0);
        HoodBook r = book(1, 1, "coin", 1, 5);
        s.due("by runs", r.best(1, 0), 2);
        s.due("by runs", r.best(1, 1), 0);
        HoodBook t = book(9, 1, "hood*coin", 8, 16);
        s.due("by told", t.best(2, 0), 1);
        s.due("by told", t.best(2, 1), 1);
        HoodBook w = book(9, 1, "hood*coin", 1);
        s.due("by was", w.best(3, 0), 1);
        s.due("by was", w.best(3, 1), 0);
        HoodBook o = Check.opened("book lines 1 rows 1;coin 5;");
        o.pass(2, 0, 0);
        o.pass(1, 0, 0);
        s.due("by often", o.best(5, 0), 0);
        s.due("by often", o.best(5, 1), 1);
        for (int kind : new int[] {0, 1, 2, 3, 5}) {
            s.due("without passes", none.best(kind, 0), 0);
            s.due("without passes", none.best(kind, 1), 0);
        }
        s.of("25", "NONE for others, or without a NIGHT.");
        for (int what = 0; what < 2; what++) {
            s.due("kind 4", x.best(4, what), -1);
            for (int bad : NO_KINDS) {
                s.due("kind " + bad, x.best(bad, what), -1);
            }
        }
        for (int bad : NO_WHATS) {
            s.due("what " + bad, x.best(0, bad), -1);
        }
        for (int kind = 0; kind < 6; kind++) {
            s.due("without a night", new HoodBook().best(kind, 0), -1);
            s.due("without a night", new HoodBook().best(kind, 1), -1);
        }
    }

    private static void crossCall(Sentences s) {
        s.of("26", "To CROSS by a kind (0 .. 5): the HOOD (what 0), how far OUT it is (1).");
        HoodBook x = book(1, 1, "max(hood,1)*2", 3);
        x.undo();
        x.pass(3, 99, 0);
        int[] hoods = {0, 32, 0, 0, 0, 0};
        int[] far = {2, 62, 2, 31, 99, 1};
        s.dueRow("the hood", k -> x.cross(k, 0), hoods);
        s.dueRow("how far", k -> x.cross(k, 1), far);
        HoodBook most = Check.opened("book lines 1 rows 1;" + "hoods 57 from 1 step 0 gives 7 gate 0;".repeat(7));
        most.night();
        s.due("with 399 passes", most.cross(2, 1), 400);
        s.of("26", "NONE for others, with 400 PASSES, or without a NIGHT.");
        for (int what = 0; what < 2; what++) {
            for (int bad : NO_KINDS) {
                s.due("kind " + bad, x.cross(bad, what), -1);
            }
        }
        for (int bad : NO_WHATS) {
            s.due("what " + bad, x.cross(0, bad), -1);
        }
        most.pass(1, 7, 0);
        HoodBook none = new HoodBook();
        for (int kind = 0; kind < 6; kind++) {
            s.due("with 400 passes", most.cross(kind, 0), -1);
            s.due("with 400 passes", most.cross(kind, 1), -1);
            s.due("without a night", none.cross(kind, 0), -1);
            s.due("without a night", none.cross(kind, 1), -1);
        }
        most.undo();
        s.due("with 399 passes again", most.cross(2, 1), 400);
    }

    private static void sameCall(Sentences s) {
        s.of("27", "SAME: how many (k NONE), the k-th by numbers.");
        HoodBook all = book(1, 1, "0", 9);
        s.due("all", all.same(HoodBook.NONE), 64);
        s.due("the first", all.same(0), 0);
        s.due("the last", all.same(63), 63);
        HoodBook some = book(2, 1, EdgesOfBooks.inLine(0, "hood"), 60, 61);
        s.due("some", some.same(-1), 4);
        s.dueRow("by numbers", some::same, 60, 61, 62, 63);
        s.due("none without passes", book(1, 1, "0").same(-1), 0);
        HoodBook most = Check.opened("book lines 1 rows 1;mix 0;" + "hoods 57 from 1 step 0 gives 7 gate 0;".repeat(7));
        most.night();
        s.due("with 399 passes", most.same(-1), 64);
        s.of("27", "NONE when there is none such, with 400 PASSES, or without a NIGHT.");
        for (int bad : new int[] {-2, 64, MIN, MAX}) {
            s.due("same(" + bad + ")", all.same(bad), -1);
        }
        s.due("one behind", some.same(4), -1);
        s.due("without passes", book(1, 1, "0").same(0), -1);
        most.pass(1, 7, 0);
        s.due("how many with 400 passes", most.same(-1), -1);
        s.due("the first with 400 passes", most.same(0), -1);
        s.due("how many without a night", new HoodBook().same(-1), -1);
        s.due("the first without a night", new HoodBook().same(0), -1);
    }
}
