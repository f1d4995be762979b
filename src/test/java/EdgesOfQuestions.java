/** Terms IV but for images, and promise 33: questions. */
final class EdgesOfQuestions {
    private static final long NOTHING = HoodBook.NOTHING;

    private EdgesOfQuestions() {
    }

    static void all(Sentences s) {
        hoodsOfAQuestion(s);
        sumsOfAQuestion(s);
        tests(s);
        parts(s);
        faultOne(s);
        faultFour(s);
        ask(s);
        askRefused(s);
    }

    /** Hoods 0, 10 and 63 passed; the marks are hood + 100 line + coin, the coin is 5. */
    private static HoodBook book() {
        HoodBook x = Check.opened("book lines 3 rows 1;mix hood+line*100+coin;coin 5;");
        x.pass(10, 20, 0);
        x.pass(63, 99, 1);
        x.pass(0, 7, 0);
        x.pass(63, 8, 0);
        return x;
    }

    private static HoodBook empty() {
        return Check.opened("book lines 1 rows 1;");
    }

    private static void asks(Sentences s, String text, long answer) {
        HoodBook x = book();
        s.due("ask '" + text + "'", Check.ask(x, text), answer);
        s.dueFault(text, x, 0, -1);
    }

    private static void faults(Sentences s, String text, int fault, int place) {
        HoodBook x = book();
        s.due("ask '" + text + "'", Check.ask(x, text), NOTHING);
        s.dueFault(text, x, fault, place);
    }

    private static void hoodsOfAQuestion(Sentences s) {
        s.of("IV", "A QUESTION is a text, of all HOODS that have passed, by numbers:");
        asks(s, "often all", 3);
        asks(s, "total hood", 73);
        asks(s, "often hood=11", 0);
        HoodBook all = Check.opened("book lines 1 rows 1;hoods 64 from 0 step 1 gives 0 gate 0;");
        all.night();
        s.due("of all 64", Check.ask(all, "often all"), 64);
        s.due("of all 64", Check.ask(all, "total hood"), 2016);
        all.undo();
        s.due("of none", Check.ask(all, "often all"), 0);
        s.of("IV", "first TEST, last TEST (the first, the last HOOD for which it holds),");
        asks(s, "first all", 0);
        asks(s, "last all", 63);
        asks(s, "first hood>0", 10);
        asks(s, "last hood<63", 10);
        asks(s, "first hood>10", 63);
        asks(s, "last hood<10", 0);
        s.of("IV", "often TEST (for how many),");
        asks(s, "often hood>0", 2);
        asks(s, "often hood>63", 0);
        s.due("without passes", Check.ask(empty(), "often all"), 0);
    }

    private static void sumsOfAQuestion(Sentences s) {
        s.of("IV", "total SUM (of all together),");
        asks(s, "total 1", 3);
        asks(s, "total 0-hood", -73);
        asks(s, "total 9999*9999", 3000000);
        asks(s, "total 0-9999*9999", -3000000);
        s.due("without passes", Check.ask(empty(), "total 5"), 0);
        s.of("IV", "most SUM, least SUM (the greatest, the least of all; 0 without PASSES).");
        asks(s, "most hood", 63);
        asks(s, "least hood", 0);
        asks(s, "most 0-hood-1", -1);
        asks(s, "least 0-hood", -63);
        asks(s, "least hood+1", 1);
        asks(s, "most 9999*9999", 1000000);
        asks(s, "least 9999*9999", 1000000);
        asks(s, "most 0-9999*9999", -1000000);
        asks(s, "least 0-9999*9999", -1000000);
        s.due("without passes", Check.ask(empty(), "most 5"), 0);
        s.due("without passes", Check.ask(empty(), "most 0-5"), 0);
        s.due("without passes", Check.ask(empty(), "least 5"), 0);
        s.due("without passes", Check.ask(empty(), "least 0-5"), 0);
    }

    private static void tests(Sentences s) {
        s.of("IV", "TEST: BOTH { or BOTH }. BOTH: FACT { and FACT }.");
        asks(s, "often hood=0 or hood=10 or hood=63", 3);
        asks(s, "often hood=0 or hood=10 and hood=63", 1);
        asks(s, "often hood=0 and hood=10 or hood=63", 1);
        asks(s, "often hood<20 and hood>5 and times=1", 1);
        faults(s, "often or", 1, 6);
        faults(s, "often all or", 1, 12);
        faults(s, "often all or or all", 1, 13);
        faults(s, "often all and", 1, 13);
        faults(s, "often all and or all", 1, 14);
        s.of("IV", "FACT: not FACT; [ TEST ] ; all; SUM SIGN SUM, SIGN < or > or = .");
        asks(s, "often not hood=0", 2);
        asks(s, "often not hood=0 or all", 3);
        asks(s, "often not hood=0 and hood=0", 0);
        asks(s, "often not[hood=0 or hood=10]", 1);
        asks(s, "often [hood=0 or hood=10]and hood=10", 1);
        asks(s, "often not all", 0);
        asks(s, "often 2<2", 0);
        asks(s, "often 1<2", 3);
        asks(s, "often 2>2", 0);
        asks(s, "often 2>1", 3);
        asks(s, "often 2=2", 3);
        asks(s, "often 1=2", 0);
        asks(s, "often 0-1<0", 3);
        faults(s, "often not", 1, 9);
        faults(s, "often []", 1, 7);
        faults(s, "often [all", 1, 10);
        faults(s, "often [all)", 1, 10);
        faults(s, "often (all)", 1, 7);
        faults(s, "often hood", 1, 10);
        faults(s, "often hood=", 1, 11);
        faults(s, "often =1", 1, 6);
        faults(s, "often 1==1", 1, 8);
        faults(s, "often 1<2<3", 1, 9);
        faults(s, "often 1!2", 1, 7);
    }

    private static void parts(Sentences s) {
        s.of("IV", "SUM as in I, but PART: N; hood; times; told; gifts; coin; mark PART; at PART; ( SUM ) ; min ( SUM , SUM ) ; "
            + "max ( SUM , SUM ) .");
        asks(s, "most 2+3*4-10/5", 12);
        asks(s, "most (0-7)/2", -4);
        asks(s, "most 7/0", 0);
        asks(s, "most 9999", 9999);
        asks(s, "most min(hood,9)+max(hood,100)", 109);
        asks(s, "most mark 1*2", 336);
        asks(s, "most mark(1*2)", 268);
        asks(s, "most at 0+1", 2);
        faults(s, "most 12345", 1, 9);
        faults(s, "most turn", 1, 5);
        faults(s, "most line", 1, 5);
        faults(s, "most mark", 1, 9);
        faults(s, "most at", 1, 7);
        faults(s, "most mark+1", 1, 9);
        faults(s, "most ()", 1, 6);
        faults(s, "most min(1)", 1, 10);
        faults(s, "most all", 1, 5);
        s.of("IV", "(Which HOOD; how often it passed; what the BOOK of all tells of it; all that it gave;");
        asks(s, "least hood", 0);
        asks(s, "most times", 2);
        asks(s, "least times", 1);
        // Marks 205, 215, 268 modulo 3 are 1, 2, 1.
        asks(s, "total told", 3 + 1 + 3);
        asks(s, "most gifts", 107);
        asks(s, "least gifts", 7);
        asks(s, "most coin", 5);
        HoodBook less = book();
        less.best(0, 0);
        s.due("the coin of now, behind best()", Check.ask(less, "most coin"), 5);
        less.undo();
        s.due("gifts of the passes of now", Check.ask(less, "most gifts"), 99);
        HoodBook full = Check.opened("book lines 1 rows 1;" + "hoods 80 from 63 step 0 gives 99 gate 1;".repeat(5));
        full.night();
        s.due("400 times", Check.ask(full, "most times"), 400);
        s.due("400 told", Check.ask(full, "most told"), 400);
        s.due("400 gifts", Check.ask(full, "most gifts"), 39600);
        s.of("IV", "its MARK in the LINE of that number, how often it passed at the GATE of that number: 0 of those that there "
            + "are not.)");
        asks(s, "least mark 0", 5);
        asks(s, "least mark 8", 805);
        asks(s, "most mark 9", 0);
        asks(s, "most mark(0-1)", 0);
        asks(s, "most mark 9999", 0);
        asks(s, "most mark(9999*9999)", 0);
        asks(s, "most mark(0-9999*9999)", 0);
        asks(s, "total at 0", 3);
        asks(s, "total at 1", 1);
        asks(s, "total at 2", 0);
        asks(s, "total at(0-1)", 0);
        asks(s, "total at 9999", 0);
        // Of 63 it is 1, 1, 1; of the others 0, 1, 0.
        asks(s, "total at at at 1", 1);
    }

    private static void faultOne(Sentences s) {
        s.of("IV", "Its FAULTS: 1 as in I (an unknown word at its first byte;");
        faults(s, "", 1, 0);
        faults(s, " \n ", 1, 3);
        faults(s, "fist all", 1, 0);
        faults(s, "firsts all", 1, 0);
        faults(s, "all", 1, 0);
        faults(s, "12345", 1, 0);
        faults(s, "?", 1, 0);
        faults(s, "book lines 1 rows 1;", 1, 0);
        faults(s, "first", 1, 5);
        faults(s, "first ", 1, 6);
        faults(s, "first1=1", 1, 5);
        faults(s, "total what", 1, 6);
        faults(s, "total hood+hoods", 1, 11);
        faults(s, "total 1+12345", 1, 12);
        faults(s, "total 1 12345", 1, 8);
        faults(s, "total mark1", 1, 10);
        faults(s, "total 3hood", 1, 7);
        s.of("IV", "what stands behind it, too);");
        faults(s, "first all;", 1, 9);
        faults(s, "first all all", 1, 10);
        faults(s, "first all]", 1, 9);
        faults(s, "first 1=1 1", 1, 10);
        faults(s, "first 1=1)", 1, 9);
        faults(s, "total hood hood", 1, 11);
        faults(s, "total hood=3", 1, 10);
        faults(s, "total 1\n\n2", 1, 9);
        asks(s, "\n often all \n", 3);
    }

    private static void faultFour(Sentences s) {
        s.of("IV", "4 the 7th of ( [ not mark at that is open at once (not until its FACT, mark, at until its PART ends), at it.");
        asks(s, "total ((((((hood))))))", 73);
        faults(s, "total (((((((hood)))))))", 4, 12);
        asks(s, "often [[[[[[all]]]]]]", 3);
        faults(s, "often [[[[[[[all]]]]]]]", 4, 12);
        asks(s, "often not not not not not not all", 3);
        faults(s, "often not not not not not not not all", 4, 30);
        // Of hood 0 it goes 0, 5, 505, 0, 5, 505; of the others 0, hood + 5, 0 and on.
        asks(s, "total mark mark mark mark mark mark 9", 505 + 15 + 68);
        faults(s, "total mark mark mark mark mark mark mark 9", 4, 36);
        asks(s, "total at at at at at at 2", 3);
        faults(s, "total at at at at at at at 2", 4, 24);
        asks(s, "often not[not[(at 1)=1]]", 1);
        faults(s, "often not[not[(mark at 1)=1]]", 4, 20);
        faults(s, "often not[not[(at(1))=1]]", 4, 17);
        faults(s, "often not[not[(at min(1,2))=1]]", 4, 21);
        faults(s, "often not not not not not not [all]", 4, 30);
        faults(s, "often not not not not not not 1=(1)", 4, 32);
        asks(s, "often not not not not not not 1=1 and (1)=1", 3);
        asks(s, "often not not not not not not 1=2 or not 1=2", 3);
        asks(s, "total mark mark mark mark mark mark 9+(1)+at 7", 588 + 3);
        asks(s, "total mark mark mark mark mark mark 9*mark 9", 0);
        asks(s, "often [[[[[[all]or[all]]]]]]", 3);
        asks(s, "total (1)+(1)+(1)+(1)+(1)+(1)+((((((1))))))", 21);
        faults(s, "total ((((((1))))))+(((((((1", 4, 26);
    }

    private static void ask(Sentences s) {
        s.of("33", "The tape (it goes) is a QUESTION: its answer;");
        HoodBook x = book();
        s.due("ask", Check.ask(x, "total hood"), 73);
        s.due("the tape is gone", x.end(1), false);
        Check.ask(x, "total");
        s.due("the tape is gone with a fault", x.end(1), false);
        x.toss(6);
        s.due("by the coin of now", Check.ask(x, "least mark 0"), 6);
        x.undo();
        x.undo();
        s.due("by the passes of now", Check.ask(x, "most times"), 1);
        String longest = "total 1" + "+1".repeat(796) + " ";
        s.due("as long as a tape", longest.length(), 1600);
        s.due("ask", Check.ask(x, longest), 3 * 797);
        s.dueRow("a question changes nothing", x::has, 3, 1, 0, 0, 5, 3, 3, 3);
        s.of("33", "NONE of first, last, when its TEST holds for none;");
        asks(s, "first not all", -1);
        asks(s, "last hood>63", -1);
        s.due("first without passes", Check.ask(empty(), "first all"), -1);
        s.due("last without passes", Check.ask(empty(), "last all"), -1);
        asks(s, "first hood=0", 0);
    }

    private static void askRefused(Sentences s) {
        s.of("33", "NOTHING with a FAULT, or, doing nothing else, without a NIGHT.");
        faults(s, "first", 1, 5);
        faults(s, "total (((((((", 4, 12);
        HoodBook x = book();
        Check.ask(x, "total");
        s.dueRow("no refusal", x::status, 0, 0, 0, 0, 0, 0);
        s.dueRow("all stays", x::has, 3, 1, 0, 0, 5, 4, 3, 4);
        HoodBook none = new HoodBook();
        s.due("without a night", Check.ask(none, "often all"), NOTHING);
        s.dueFault("without a night", none, 0, -1);
        Check.open(none, "book lines 0");
        s.due("without a night", Check.ask(none, "often"), NOTHING);
        s.dueFault("the fault of open() stays", none, 2, 11);
        s.due("the tape is gone", none.end(1), false);
        s.due("an empty one", none.ask(), NOTHING);
        s.dueRow("no refusal", none::status, 1, 1, 0, 0, 0, 0);
    }
}
