/** Promise 33: questions. */
public final class AskTest {
    private static final long NOTHING = HoodBook.NOTHING;

    public static void main(String[] args) {
        Check c = new Check("AskTest");
        answers(c);
        logic(c);
        sums(c);
        withoutPasses(c);
        faults(c);
        tooDeep(c);
        withoutNight(c);
        c.finish();
    }

    /** Hoods 3 (twice), 10, 60, told by three places; marks are hood + 100 line + coin. */
    private static HoodBook book() {
        HoodBook x = Check.opened("book lines 3 rows 1;mix hood+line*100+coin;coin 5;");
        x.pass(10, 20, 0);
        x.pass(3, 7, 0);
        x.pass(60, 99, 1);
        x.pass(3, 8, 1);
        return x;
    }

    private static void asks(Check c, String text, long answer) {
        HoodBook x = book();
        c.due("ask '" + text + "'", Check.ask(x, text), answer);
        c.dueFault(text, x, 0, -1);
        c.due("the tape goes", x.feed(0, 0, 0, 0, 0), 20);
    }

    private static void answers(Check c) {
        asks(c, "first all", 3);
        asks(c, "last all", 60);
        asks(c, "often all", 3);
        asks(c, "first hood>3", 10);
        asks(c, "last hood<60", 10);
        asks(c, "first hood=60", 60);
        asks(c, "first hood>60", -1);
        asks(c, "last hood<3", -1);
        asks(c, "often hood>60", 0);
        asks(c, "total hood", 73);
        asks(c, "most hood", 60);
        asks(c, "least hood", 3);
        asks(c, "most 0-hood", -3);
        asks(c, "least 0-hood", -60);
        asks(c, "total 0-hood", -73);
        asks(c, "total 1", 3);
        asks(c, "total times", 4);
        asks(c, "most times", 2);
        asks(c, "first times=2", 3);
        asks(c, "total gifts", 134);
        asks(c, "most gifts", 99);
        asks(c, "least gifts", 15);
        asks(c, "total coin", 15);
        asks(c, "total at 0", 2);
        asks(c, "total at 1", 2);
        asks(c, "first at 1=0", 10);
        asks(c, "total at 2+at(0-1)+at 9999", 0);
        asks(c, "least mark 0", 8);
        asks(c, "most mark 8", 865);
        asks(c, "total mark 9+mark(0-1)+mark 9999", 0);
        asks(c, "least mark mark(hood*0)", 0);
        asks(c, "least mark(mark 0-hood-3)", 208);
        // Marks 208, 215, 265 modulo 3: of 3, 10, 60 they are 1, 2, 1.
        asks(c, "total told", 3 + 1 + 3);
        asks(c, "first told>times", 3);
        asks(c, "often told=times", 1);
        asks(c, "total 9999*9999", 3000000);
        asks(c, "total 0-9999*9999-1", -3000000);
        asks(c, " \n often\nall\n ", 3);
        HoodBook x = book();
        x.toss(7);
        c.due("by the coin of now", Check.ask(x, "least mark 0+coin*1000"), 7010);
        x.undo();
        x.undo();
        c.due("by the passes of now", Check.ask(x, "total times"), 3);
        c.due("a question changes nothing", x.has(5), 3);
        c.due("a question changes nothing", x.has(7), 3);
    }

    private static void logic(Check c) {
        asks(c, "often hood=3 or hood=10", 2);
        asks(c, "often hood=3 and hood=10", 0);
        asks(c, "often hood=3 or hood=10 and hood=60", 1);
        asks(c, "often [hood=3 or hood=10] and hood=60", 0);
        asks(c, "often hood=60 and hood=10 or hood=3", 1);
        asks(c, "often not hood=3", 2);
        asks(c, "often not hood=3 and hood=3", 0);
        asks(c, "often not[hood=3 or hood=10]", 1);
        asks(c, "often not not hood=3", 1);
        asks(c, "often not all", 0);
        asks(c, "often all and all or not all", 3);
        asks(c, "often not all or hood<10", 1);
        asks(c, "often [[all]]", 3);
        asks(c, "often 1<2", 3);
        asks(c, "often 2<2", 0);
        asks(c, "often 2>2", 0);
        asks(c, "often 2=2", 3);
        asks(c, "often 3>2", 3);
    }

    private static void sums(Check c) {
        asks(c, "most 2+3*4", 14);
        asks(c, "most (2+3)*4", 20);
        asks(c, "most 0-7/2", -3);
        asks(c, "most (0-7)/2", -4);
        asks(c, "most 7/0", 0);
        asks(c, "most min(hood,9)", 9);
        asks(c, "least max(hood,9)", 9);
        asks(c, "most 9999*9999+1", 1000000);
        asks(c, "most mark 1*2", 330);
        asks(c, "most at 0*3+1", 4);
        asks(c, "first hood+1=4", 3);
        asks(c, "first 61-1<hood+1", 60);
    }

    private static void withoutPasses(Check c) {
        HoodBook x = Check.opened("book lines 1 rows 1;");
        c.due("first", Check.ask(x, "first all"), -1);
        c.due("last", Check.ask(x, "last all"), -1);
        c.due("often", Check.ask(x, "often all"), 0);
        c.due("total", Check.ask(x, "total 5"), 0);
        c.due("most", Check.ask(x, "most 0-5"), 0);
        c.due("least", Check.ask(x, "least 5"), 0);
    }

    private static void bad(Check c, String text, int fault, int place) {
        HoodBook x = book();
        c.due("ask '" + text + "'", Check.ask(x, text), NOTHING);
        c.dueFault(text, x, fault, place);
        c.due("the tape goes", x.feed(0, 0, 0, 0, 0), 20);
        for (int what = 0; what < 6; what++) {
            c.due("no refusal", x.status(what), 0);
        }
    }

    private static void faults(Check c) {
        bad(c, "", 1, 0);
        bad(c, "  ", 1, 2);
        bad(c, "fist all", 1, 0);
        bad(c, "all", 1, 0);
        bad(c, "12345", 1, 0);
        bad(c, "first", 1, 5);
        bad(c, "first ", 1, 6);
        bad(c, "firstall", 1, 0);
        bad(c, "first1=1", 1, 5);
        bad(c, "first hood", 1, 10);
        bad(c, "first hood=", 1, 11);
        bad(c, "first hood==3", 1, 11);
        bad(c, "first hood<3<4", 1, 12);
        bad(c, "first hood!3", 1, 10);
        bad(c, "first all all", 1, 10);
        bad(c, "first all;", 1, 9);
        bad(c, "first all or", 1, 12);
        bad(c, "first all and or", 1, 14);
        bad(c, "first or", 1, 6);
        bad(c, "first not", 1, 9);
        bad(c, "first [all", 1, 10);
        bad(c, "first [all)", 1, 10);
        bad(c, "first all]", 1, 9);
        bad(c, "first (all)", 1, 7);
        bad(c, "first (1=1)", 1, 8);
        bad(c, "total all", 1, 6);
        bad(c, "total hood=3", 1, 10);
        bad(c, "total hood hood", 1, 11);
        bad(c, "total 1 2", 1, 8);
        bad(c, "total 12345", 1, 10);
        bad(c, "total turn", 1, 6);
        bad(c, "total line", 1, 6);
        bad(c, "total hoods", 1, 6);
        bad(c, "total gate", 1, 6);
        bad(c, "total what", 1, 6);
        bad(c, "total mark", 1, 10);
        bad(c, "total mark1", 1, 10);
        bad(c, "total mark+1", 1, 10);
        bad(c, "total at", 1, 8);
        bad(c, "total not 1", 1, 6);
        bad(c, "total min(1", 1, 11);
        bad(c, "total 1+", 1, 8);
        bad(c, "total 3hood", 1, 7);
        bad(c, "total hood3", 1, 10);
        bad(c, "total 9999 x", 1, 11);
    }

    private static void tooDeep(Check c) {
        asks(c, "total ((((((hood))))))", 73);
        bad(c, "total (((((((hood)))))))", 4, 12);
        asks(c, "often [[[[[[all]]]]]]", 3);
        bad(c, "often [[[[[[[all]]]]]]]", 4, 12);
        asks(c, "often not not not not not not all", 3);
        bad(c, "often not not not not not not not all", 4, 30);
        bad(c, "often not not not not not not [all]", 4, 30);
        bad(c, "often not not not not not not (1)=1", 4, 30);
        bad(c, "often not not not not not not 1=(1)", 4, 32);
        asks(c, "often not not not not not not 1=1 and (1)=1", 3);
        // Of hood 3 it goes 0, 8, 808, 0, 8, 808; of the others 0, hood + 5, 0 and on.
        asks(c, "total mark mark mark mark mark mark 9", 808 + 15 + 65);
        bad(c, "total mark mark mark mark mark mark mark 9", 4, 36);
        bad(c, "total at at at at at at mark 9", 4, 24);
        bad(c, "total at at at at at at at 9", 4, 24);
        bad(c, "total at at at at at at (9)", 4, 24);
        asks(c, "total mark mark mark mark mark mark 9+(1)+at 7", 888 + 3);
        bad(c, "total mark mark mark mark mark mark min(1,2)", 4, 39);
        bad(c, "often [not[not [(mark(1)=3]]]", 4, 17);
        bad(c, "often [not[not [(at 1)=3]]", 4, 17);
        asks(c, "often [not[not[1=1]]]", 3);
        asks(c, "total (1)+(1)+(1)+(1)+(1)+(1)+(1)+((1))", 24);
    }

    private static void withoutNight(Check c) {
        HoodBook x = new HoodBook();
        c.due("ask", Check.ask(x, "often all"), NOTHING);
        c.dueFault("often all", x, 0, -1);
        c.due("the tape goes", x.feed(0, 0, 0, 0, 0), 20);
        Check.open(x, "book lines 0");
        c.due("ask", Check.ask(x, "often"), NOTHING);
        c.dueFault("doing nothing else", x, 2, 11);
        c.due("ask", x.ask(), NOTHING);
        for (int what = 0; what < 6; what++) {
            c.due("status", x.status(what), what == 1 ? 1 : 0);
        }
    }
}
