/** Promise 7, and how a SUM is reckoned. */
public final class MarkTest {
    public static void main(String[] args) {
        Check c = new Check("MarkTest");
        sums(c);
        limits(c);
        words(c);
        withoutMix(c);
        wrongCalls(c);
        c.finish();
    }

    private static void sum(Check c, String sum, int mark) {
        HoodBook x = Check.opened("book lines 1 rows 1;mix " + sum + ";");
        c.due("mark by " + sum, x.mark(0, 0), mark);
    }

    private static void sums(Check c) {
        sum(c, "0", 0);
        sum(c, "0007", 7);
        sum(c, "999", 999);
        sum(c, "1000", 0);
        sum(c, "9999", 999);
        sum(c, "0-1", 999);
        sum(c, "0-1000", 0);
        sum(c, "0-1001", 999);
        sum(c, "2+3*4", 14);
        sum(c, "(2+3)*4", 20);
        sum(c, "10-3-2", 5);
        sum(c, "10-(3-2)", 9);
        sum(c, "100/10/5", 2);
        sum(c, "100/10*5", 50);
        sum(c, "7*3/2", 10);
        sum(c, "7/2*3", 9);
        sum(c, "7/2", 3);
        sum(c, "(0-7)/2", 996);
        sum(c, "7/(0-2)", 996);
        sum(c, "(0-7)/(0-2)", 3);
        sum(c, "(0-8)/2", 996);
        sum(c, "5/0", 0);
        sum(c, "5+3/0*9", 5);
        sum(c, "min(3,4)+max(3,4)*10", 43);
        sum(c, "min(4,3)+max(4,3)*10", 43);
        sum(c, "min(0-4,3)+max(0-4,3)*10", 26);
        sum(c, "max(min(1,2),min(3,max(5,4)))", 3);
    }

    private static void limits(Check c) {
        sum(c, "9999*9999", 0);
        sum(c, "9999*9999-1", 999);
        sum(c, "9999*9999+9999-1", 999);
        sum(c, "0-9999*9999-5", 0);
        sum(c, "0-9999*9999-5+3", 3);
        sum(c, "(0-9999)*9999+7", 7);
        sum(c, "9999*9999/1001", 999);
        sum(c, "1000*1000-1", 999);
        sum(c, "1000*999+999+1-1", 999);
        sum(c, "1000*999+999+2-1", 999);
        sum(c, "9999*9999*9999*9999-3", 997);
        sum(c, "(0-9999*9999)*(0-9999*9999)-4", 996);
    }

    private static void words(Check c) {
        HoodBook x = Check.opened("book lines 1 rows 1;mix hood*100+line*10+coin;coin 3;");
        c.due("mark(0, 0)", x.mark(0, 0), 3);
        c.due("mark(5, 4)", x.mark(5, 4), 543);
        c.due("mark(9, 8)", x.mark(9, 8), 983);
        c.due("mark(63, 8)", x.mark(63, 8), 383);
        x.toss(9);
        c.due("mark by another coin", x.mark(5, 4), 549);
        x.undo();
        c.due("mark by the first again", x.mark(5, 4), 543);
        c.due("coin 99", Check.opened("book lines 1 rows 1;coin 1;mix coin;coin 99;").mark(0, 0), 99);
    }

    private static void withoutMix(Check c) {
        HoodBook x = Check.opened("book lines 1 rows 1;coin 99;");
        c.due("mark(63, 8)", x.mark(63, 8), 288);
        c.due("mark(1, 1)", x.mark(1, 1), (619 + 211 + 9603) % 1000);
        x.toss(0);
        c.due("mark(1, 0)", x.mark(1, 0), 619);
        c.due("mark(0, 1)", x.mark(0, 1), 211);
        x.toss(1);
        c.due("mark(0, 0)", x.mark(0, 0), 97);
    }

    private static void wrongCalls(Check c) {
        HoodBook x = new HoodBook();
        c.due("without a night", x.mark(0, 0), -1);
        Check.open(x, "book lines 1 rows 1;mix 7;");
        c.due("mark(0, 8)", x.mark(0, 8), 7);
        c.due("mark(0, 9)", x.mark(0, 9), -1);
        c.due("mark(0, -1)", x.mark(0, -1), -1);
        c.due("mark(64, 0)", x.mark(64, 0), -1);
        c.due("mark(-1, 0)", x.mark(-1, 0), -1);
        c.due("mark(max, min)", x.mark(Integer.MAX_VALUE, Integer.MIN_VALUE), -1);
    }
}
