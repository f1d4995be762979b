/** Promises 23 to 27: how far out the books are. */
public final class OutTest {
    private static final int[] BAD = {-1, 6, Integer.MIN_VALUE, Integer.MAX_VALUE};

    public static void main(String[] args) {
        Check c = new Check("OutTest");
        out(c);
        few(c);
        best(c);
        cross(c);
        same(c);
        withoutPasses(c);
        withAllPasses(c);
        wrongCalls(c);
        c.finish();
    }

    private static HoodBook with(String text, int... hoods) {
        HoodBook x = Check.opened(text);
        for (int hood : hoods) {
            x.pass(hood, 0, 0);
        }
        return x;
    }

    private static void out(Check c) {
        HoodBook x = with("book lines 3 rows 1;mix hood*10;", 1, 2, 4, 4);
        c.due("by unlike", x.out(2, 0), 47);
        x.pass(63, 0, 1);
        c.due("by unlike at gate 1", x.out(1, 0), 0);
        c.due("by unlike at gate 0", x.out(0, 0), 47);
        c.due("by runs", with("book lines 1 rows 1;mix hood;", 0).out(2, 1), 1023);
        c.due("by runs, too few", with("book lines 1 rows 1;mix hood;", 1, 3, 5).out(2, 1), 2);
        c.due("by told", with("book lines 1 rows 3;", 1, 1, 2).out(2, 2), 3);
        c.due("by told", with("book lines 9 rows 1;mix hood/8;", 1, 1, 2, 9).out(2, 2), 3);
        // Hoods 0 and 63 have the same marks, no others share both rows.
        String ends = "book lines 9 rows 2;mix (hood-hood/63*63)/(line*8-15);";
        c.due("by told of hood 0", with(ends, 63).out(2, 2), 1);
        c.due("by told of hood 63", with(ends, 0, 0).out(2, 2), 2);
        c.due("by told of none", with(ends, 7, 7).out(2, 2), 0);
        c.due("by was", with("book lines 1 rows 1;mix 1;", 3, 4, 4).out(2, 3), 62);
        c.due("by was", with("book lines 9 rows 1;mix hood;", 3, 4).out(2, 3), 0);
        HoodBook m = Check.opened("book lines 1 rows 1;");
        m.pass(0, 50, 0);
        m.pass(0, 20, 1);
        c.due("by middle", m.out(2, 4), 50);
        c.due("by middle at gate 1", m.out(1, 4), 20);
        c.due("by often, one less", with("book lines 1 rows 1;", 1, 2, 1).out(2, 5), 1);
        c.due("by often, no place", with("book lines 1 rows 1;", 2, 1).out(2, 5), 1);
        c.due("by often, another's place", with("book lines 1 rows 1;", 4, 2, 4, 2, 9).out(2, 5), 2);
        c.due("by often, right", with("book lines 2 rows 1;", 4, 2, 4).out(2, 5), 0);
    }

    private static void few(Check c) {
        HoodBook x = with("book lines 3 rows 1;mix hood*10;", 1, 2, 4);
        c.due("few(0, 0)", x.few(0, 0), 4);
        c.due("few(0, 2)", x.few(0, 2), 4);
        c.due("few(0, 3)", x.few(0, 3), 1);
        c.due("few(0, 9999)", x.few(0, 9999), 1);
        HoodBook ten = with("book lines 1 rows 1;mix hood;", 1, 2, 3, 4, 5, 6, 7, 8, 9, 10);
        c.due("by none", ten.few(0, 9), -1);
        c.due("few(0, 10)", ten.few(0, 10), 1);
        HoodBook told = with("book lines 9 rows 2;mix hood;", 1);
        c.due("few(2, 0)", told.few(2, 0), -1);
        c.due("few(2, 1)", told.few(2, 1), 1);
        HoodBook was = with("book lines 1 rows 1;mix hood;", 1);
        // With 8 bits hoods 9, 17, .. 57 too, with 64 none.
        c.due("few(3, 6)", was.few(3, 6), 2);
        c.due("few(3, 7)", was.few(3, 7), 1);
        c.due("few(3, 1)", was.few(3, 1), 4);
        c.due("few(3, 0)", was.few(3, 0), 8);
        HoodBook m = Check.opened("book lines 1 rows 1;");
        m.pass(0, 50, 0);
        c.due("few(4, 0)", m.few(4, 0), 2);
        c.due("few(4, 49)", m.few(4, 49), 2);
        c.due("few(4, 50)", m.few(4, 50), 1);
        HoodBook often = with("book lines 1 rows 1;", 1, 2, 3);
        c.due("few(5, 0)", often.few(5, 0), 3);
        c.due("few(5, 1)", often.few(5, 1), 1);
        c.due("the book stays", often.has(0), 1);
        c.due("the book stays", often.often(2, 0, 0), 3);
        HoodBook gate = Check.opened("book lines 1 rows 1;");
        gate.pass(0, 50, 1);
        c.due("the book of all", gate.few(4, 0), 2);
    }

    private static void best(Check c) {
        HoodBook x = with("book lines 2 rows 1;mix hood+coin*10;coin 7;", 0, 5);
        c.due("best(0, 0)", x.best(0, 0), 33);
        c.due("best(0, 1)", x.best(0, 1), 0);
        c.due("the coin stays", x.has(4), 7);
        c.due("the marks stay", x.mark(0, 0), 70);
        c.due("the book stays", x.least(2, 1), 75);
        HoodBook r = with("book lines 1 rows 1;mix hood+coin;", 1, 5);
        c.due("best(1, 0)", r.best(1, 0), 1);
        c.due("best(1, 1)", r.best(1, 1), 0);
        HoodBook like = with("book lines 1 rows 1;mix hood+coin;coin 9;", 1, 3);
        c.due("of like ones the first", like.best(1, 0), 0);
        c.due("best(1, 1)", like.best(1, 1), 1);
        HoodBook t = with("book lines 9 rows 1;mix hood*coin;", 8, 16);
        // By coin 0 both are told of all; by coin 1 one of hood 17.
        c.due("best(2, 0)", t.best(2, 0), 1);
        c.due("best(2, 1)", t.best(2, 1), 1);
        HoodBook w = with("book lines 9 rows 1;mix hood*coin;", 1);
        c.due("best(3, 0)", w.best(3, 0), 1);
        c.due("best(3, 1)", w.best(3, 1), 0);
        HoodBook last = with("book lines 9 rows 1;mix hood*(coin/99);", 1);
        c.due("the last coin", last.best(3, 0), 99);
        c.due("the last coin", last.best(3, 1), 0);
        HoodBook beyond = with("book lines 9 rows 1;mix hood*(coin/100);", 1);
        c.due("no coin 100", beyond.best(3, 0), 0);
        c.due("no coin 100", beyond.best(3, 1), 63);
        HoodBook o = with("book lines 1 rows 1;coin 5;", 2, 1);
        c.due("best(5, 0)", o.best(5, 0), 0);
        c.due("best(5, 1)", o.best(5, 1), 1);
    }

    private static void cross(Check c) {
        HoodBook x = with("book lines 3 rows 1;mix 630-hood*10;", 60, 61);
        c.due("cross(0, 0)", x.cross(0, 0), 62);
        c.due("cross(0, 1)", x.cross(0, 1), 63);
        c.due("nobody passed", x.has(5), 2);
        c.due("the book stays", x.says(2, 0), 2);
        HoodBook r = with("book lines 1 rows 1;mix hood+1;");
        c.due("cross(1, 0)", r.cross(1, 0), 63);
        c.due("cross(1, 1)", r.cross(1, 1), 63);
        HoodBook t = with("book lines 2 rows 1;mix hood/40;", 50);
        // A second one from 40 on is told of each of these.
        c.due("cross(2, 0)", t.cross(2, 0), 40);
        c.due("cross(2, 1)", t.cross(2, 1), 2);
        HoodBook w = with("book lines 1 rows 1;mix 1;", 5);
        c.due("cross(3, 0)", w.cross(3, 0), 5);
        c.due("cross(3, 1)", w.cross(3, 1), 63);
        HoodBook m = Check.opened("book lines 1 rows 1;");
        m.pass(7, 99, 1);
        c.due("cross(4, 0)", m.cross(4, 0), 0);
        c.due("cross(4, 1)", m.cross(4, 1), 99);
        HoodBook o = with("book lines 1 rows 1;", 0, 0);
        c.due("cross(5, 0)", o.cross(5, 0), 1);
        c.due("cross(5, 1)", o.cross(5, 1), 1);
    }

    private static void same(Check c) {
        HoodBook all = with("book lines 1 rows 1;mix 5;", 9);
        c.due("same(-1)", all.same(-1), 64);
        c.due("same(0)", all.same(0), 0);
        c.due("same(63)", all.same(63), 63);
        c.due("same(64)", all.same(64), -1);
        c.due("same(-2)", all.same(-2), -1);
        c.due("same(max)", all.same(Integer.MAX_VALUE), -1);
        c.due("same(min)", all.same(Integer.MIN_VALUE), -1);
        HoodBook noughts = with("book lines 1 rows 1;mix 0;", 9);
        c.due("same(-1)", noughts.same(-1), 64);
        c.due("same(64)", noughts.same(64), -1);
        HoodBook x = with("book lines 2 rows 1;mix hood;", 4, 8);
        c.due("same(-1)", x.same(-1), 8);
        c.dueRow("same", x::same, 4, 8, 20, 24, 36, 40, 52, 56, -1);
        HoodBook room = with("book lines 3 rows 1;mix hood;", 4, 8);
        c.dueRow("a line is empty", room::same, 4, 8, -1);
        HoodBook least = with("book lines 2 rows 1;mix hood;", 4, 24);
        c.dueRow("by least", least::same, 4, 24, 36, 40, 52, 56, -1);
        HoodBook run = with("book lines 1 rows 1;mix hood*(1-min(1,max(line-4,0)));", 2);
        c.due("by run", run.same(-1), 47);
        c.dueRow("by run", run::same, 2, 3, 5, 6, 7, 9, 10);
        // Bits and run are one for all; line 0 tells nothing, line 2 is less the higher the hood.
        HoodBook sign = with("book lines 3 rows 1;mix (1-min(1,max(line-2,0)))*(line/2)*(63-hood);", 2);
        c.due("by signs: a line is empty", sign.same(-1), 3);
        c.dueRow("by signs", sign::same, 0, 1, 2, -1);
        HoodBook bits = with("book lines 1 rows 1;mix line/6*hood;", 3);
        c.due("by bits", bits.same(-1), 16);
        c.dueRow("by bits", bits::same, 0, 3, 8, 11, 16, 19);
    }

    private static void withoutPasses(Check c) {
        HoodBook x = Check.opened("book lines 2 rows 1;coin 3;");
        for (int kind = 0; kind < 6; kind++) {
            for (int book = 0; book < 3; book++) {
                c.due("out", x.out(book, kind), 0);
            }
            c.due("few", x.few(kind, 0), 1);
            c.due("best", x.best(kind, 0), kind == 4 ? -1 : 0);
            c.due("best", x.best(kind, 1), kind == 4 ? -1 : 0);
        }
        c.due("same(-1)", x.same(-1), 0);
        c.due("same(0)", x.same(0), -1);
    }

    private static void withAllPasses(Check c) {
        HoodBook x = Check.opened("book lines 1 rows 1;hoods 80 from 1 step 0 gives 7 gate 0;");
        for (int k = 0; k < 5; k++) {
            x.night();
        }
        c.due("passes", x.has(5), 400);
        for (int kind = 0; kind < 6; kind++) {
            c.due("cross", x.cross(kind, 0), -1);
            c.due("cross", x.cross(kind, 1), -1);
        }
        c.due("same(-1)", x.same(-1), -1);
        c.due("same(0)", x.same(0), -1);
        c.due("few", x.few(4, 7), 1);
        c.due("few", x.few(2, 400), 1);
        c.due("best", x.best(2, 1), 400);
        x.undo();
        c.due("cross again", x.cross(2, 1), 321);
        c.due("same again", x.same(0) >= 0, true);
    }

    private static void wrongCalls(Check c) {
        HoodBook x = with("book lines 2 rows 1;", 1, 2);
        HoodBook none = new HoodBook();
        for (int bad : BAD) {
            c.due("out kind", x.out(2, bad), -1);
            c.due("few kind", x.few(bad, 5), -1);
            c.due("best kind", x.best(bad, 0), -1);
            c.due("best what", x.best(0, bad), -1);
            c.due("cross kind", x.cross(bad, 0), -1);
            c.due("cross what", x.cross(0, bad), -1);
            c.due("out book", x.out(bad, 0), -1);
        }
        c.due("out(3, 0)", x.out(3, 0), -1);
        c.due("few(0, -1)", x.few(0, -1), -1);
        c.due("few(0, 10000)", x.few(0, 10000), -1);
        c.due("best(4, 0)", x.best(4, 0), -1);
        c.due("best(4, 1)", x.best(4, 1), -1);
        c.due("best(0, 2)", x.best(0, 2), -1);
        c.due("cross(0, 2)", x.cross(0, 2), -1);
        c.due("out without a night", none.out(2, 0), -1);
        c.due("few without a night", none.few(0, 0), -1);
        c.due("best without a night", none.best(0, 0), -1);
        c.due("cross without a night", none.cross(0, 0), -1);
        c.due("same without a night", none.same(-1), -1);
    }
}
