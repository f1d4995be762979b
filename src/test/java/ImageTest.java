import java.util.Arrays;

/** Promises 34 to 37: images and refusals. */
public final class ImageTest {
    private static final String NIGHT = "book lines 2 rows 1;hoods 3 from 1 step 1 gives 9 gate 1;mix hood+coin;";

    public static void main(String[] args) {
        Check c = new Check("ImageTest");
        written(c);
        readAgain(c);
        longImage(c);
        notThatNight(c);
        noImages(c);
        lots(c);
        refusals(c);
        c.finish();
    }

    private static int[] closed(int... bytes) {
        int[] whole = Arrays.copyOf(bytes, bytes.length + 1);
        int check = 211;
        for (int b : bytes) {
            check = (3 * check + b) % 251;
        }
        whole[bytes.length] = check;
        return whole;
    }

    private static void written(Check c) {
        HoodBook x = new HoodBook();
        c.due("octet ahead of any", x.octet(0), -1);
        c.due("image without a night", x.image(), 4);
        c.dueRow("octet", x::octet, 0, 0, 0, 175, -1);
        Check.open(x, NIGHT + "coin 77;");
        c.due("the latest stays", x.octet(3), 175);
        c.due("image without passes", x.image(), 6);
        c.dueRow("octet", x::octet, closed(77, 0, 0, 255, 255));
        x.pass(63, 99, 1);
        x.pass(63, 5, 0);
        c.due("the latest stays", x.octet(6), -1);
        c.due("image of two", x.image(), 12);
        c.dueRow("octet", x::octet, closed(77, 0, 2, 63, 99, 1, 63, 5, 0, 63, 63));
        c.due("octet(12)", x.octet(12), -1);
        c.due("octet(-1)", x.octet(-1), -1);
        c.due("octet(min)", x.octet(Integer.MIN_VALUE), -1);
        c.due("octet(max)", x.octet(Integer.MAX_VALUE), -1);
        x.undo();
        x.undo();
        c.due("image again", x.image(), 6);
        c.due("octet(6)", x.octet(6), -1);
    }

    private static void readAgain(Check c) {
        HoodBook x = Check.opened(NIGHT);
        x.seed(99);
        x.night();
        x.pass(50, 60, 0);
        x.toss(42);
        int[] bytes = Check.octets(x);
        int lot0 = x.lot(0);
        int lot1 = x.lot(1);
        x.pass(1, 1, 0);
        x.toss(1);
        x.bin(0, 0);
        Check.write(x, bytes);
        c.due("on", x.on(), true);
        c.due("coin", x.has(4), 42);
        c.due("passes", x.has(5), 4);
        c.due("unlike", x.has(6), 4);
        c.due("acts", x.has(7), 0);
        c.due("undo", x.undo(), false);
        c.dueRow("hoods", k -> x.passed(k, 0), 1, 2, 3, 50, -1);
        c.dueRow("gifts", k -> x.passed(k, 1), 9, 9, 9, 60, -1);
        c.dueRow("gates", k -> x.passed(k, 2), 1, 1, 1, 0, -1);
        c.due("lot(0)", x.lot(0), lot0);
        c.due("lot(1)", x.lot(1), lot1);
        c.due("least", x.least(2, 0), 43);
        c.due("mark", x.mark(0, 0), 42);
        c.due("bin", x.bin(0, 1), 1);
        c.due("the tape goes", x.feed(0, 0, 0, 0, 0), 20);
        c.due("night goes on", x.night(), 7);
        c.due("undo goes on", x.undo(), true);
        HoodBook y = Check.opened(NIGHT);
        Check.write(y, bytes);
        c.due("on another object", y.on(), true);
        c.due("its image", Arrays.equals(Check.octets(y), bytes), true);
        c.due("status(5)", y.status(5), 0);
        Check.write(y, closed(3, 0, 0, 255, 255));
        c.due("none again", y.on(), true);
        c.due("passes", y.has(5), 0);
        c.due("coin", y.has(4), 3);
        c.due("lot", y.lot(0), -1);
        c.due("times", y.times(2, 1), 0);
    }

    private static void longImage(Check c) {
        HoodBook x = Check.opened("book lines 9 rows 1;hoods 80 from 3 step 5 gives turn gate 1;");
        for (int k = 0; k < 5; k++) {
            x.night();
        }
        int[] bytes = new int[3 + 1200 + 9];
        bytes[1] = 1;
        bytes[2] = 144;
        for (int k = 0; k < 400; k++) {
            bytes[3 + 3 * k] = (3 + k % 80 * 5) % 64;
            bytes[4 + 3 * k] = k % 80;
            bytes[5 + 3 * k] = 1;
        }
        for (int line = 0; line < 9; line++) {
            bytes[1203 + line] = x.lot(line);
        }
        bytes = closed(bytes);
        c.due("length", x.image(), bytes.length);
        for (int k = 0; k < bytes.length; k += 4) {
            c.due("octet(" + k + ")", x.octet(k), bytes[k]);
        }
        c.due("the last", x.octet(1212), bytes[1212]);
        HoodBook y = Check.opened("book lines 9 rows 3;");
        Check.write(y, bytes);
        c.due("on", y.on(), true);
        c.due("passes", y.has(5), 400);
        c.due("no more", y.pass(0, 0, 0), -1);
        int[] more = new int[3 + 3 * 401 + 9];
        System.arraycopy(bytes, 0, more, 0, 3 + 1200);
        more[2] = 145;
        System.arraycopy(bytes, 3 + 1200, more, 3 + 1203, 9);
        more = closed(more);
        Check.write(y, more);
        c.due("401 passes", y.on(), false);
        int[] told = Arrays.copyOf(bytes, bytes.length - 1);
        told[2] = 145;
        Check.write(y, closed(told));
        c.due("401 told, 400 there", y.on(), false);
        told[1] = 255;
        Check.write(y, closed(told));
        c.due("many told, 400 there", y.on(), false);
    }

    private static void notThatNight(Check c) {
        HoodBook x = new HoodBook();
        Check.write(x, closed(0, 0, 0));
        c.due("without a night", x.on(), false);
        c.due("the tape goes", x.feed(0, 0, 0, 0, 0), 20);
        c.due("status(5)", x.status(5), 1);
        Check.open(x, "book lines 1 rows 1;");
        Check.write(x, closed(0, 0, 0, 255, 255));
        c.due("two lines", x.on(), false);
        Check.write(x, closed(0, 0, 0));
        c.due("no line", x.on(), false);
        Check.write(x, closed(0, 0, 0, 255));
        c.due("one line", x.on(), true);
    }

    private static void refused(Check c, String why, int... bytes) {
        HoodBook x = Check.opened(NIGHT + "coin 7;");
        x.pass(20, 30, 1);
        x.toss(8);
        Check.write(x, bytes);
        c.due(why, x.on(), false);
        c.due("status(5) " + why, x.status(5), 1);
        c.due("coin stays " + why, x.has(4), 8);
        c.due("passes stay " + why, x.has(5), 1);
        c.due("acts stay " + why, x.has(7), 2);
        c.due("lot stays " + why, x.lot(1), 20);
        c.due("pass stays " + why, x.passed(0, 1), 30);
        c.due("the tape goes " + why, x.feed(0, 0, 0, 0, 0), 20);
    }

    private static void accepted(Check c, String why, int... bytes) {
        HoodBook x = Check.opened(NIGHT);
        Check.write(x, bytes);
        c.due(why, x.on(), true);
        c.due("its image, " + why, Arrays.equals(Check.octets(x), bytes), true);
    }

    private static void noImages(Check c) {
        accepted(c, "the most", closed(99, 0, 1, 63, 99, 1, 63, 63));
        accepted(c, "the least", closed(0, 0, 1, 0, 0, 0, 0, 0));
        refused(c, "empty");
        refused(c, "short", 0);
        refused(c, "short", 0, 0, 0);
        refused(c, "short", closed(0, 0, 0));
        refused(c, "short", closed(0, 0, 0, 255));
        refused(c, "long", closed(0, 0, 0, 255, 255, 255));
        refused(c, "coin", closed(100, 0, 0, 255, 255));
        refused(c, "coin", closed(255, 0, 1, 63, 99, 1, 63, 63));
        refused(c, "hood", closed(0, 0, 2, 64, 0, 0, 1, 0, 0, 1, 1));
        refused(c, "gift", closed(0, 0, 1, 1, 100, 0, 1, 1));
        refused(c, "gate", closed(0, 0, 1, 1, 0, 2, 1, 1));
        refused(c, "count", closed(0, 0, 2, 1, 0, 0, 1, 1));
        refused(c, "count", closed(0, 0, 0, 1, 0, 0, 1, 1));
        refused(c, "count", closed(0, 255, 255, 1, 0, 0, 1, 1));
        int[] spoilt = closed(5, 0, 1, 1, 2, 1, 1, 1);
        spoilt[8] = (spoilt[8] + 1) % 251;
        refused(c, "check", spoilt);
        int[] other = closed(5, 0, 1, 1, 2, 1, 1, 1);
        other[4]++;
        refused(c, "check", other);
        int[] round = closed(5, 0, 1, 1, 2, 1, 1, 1);
        for (int coin = 0; round[8] > 4; coin++) {
            round = closed(coin, 0, 1, 1, 2, 1, 1, 1);
        }
        round[8] += 251;
        refused(c, "check above 250", round);
    }

    private static void lots(Check c) {
        accepted(c, "lots of two", closed(0, 0, 2, 5, 0, 0, 6, 0, 0, 5, 6));
        accepted(c, "lots of one", closed(0, 0, 2, 5, 0, 0, 6, 0, 0, 6, 6));
        refused(c, "a lot that did not pass", closed(0, 0, 2, 5, 0, 0, 6, 0, 0, 5, 7));
        refused(c, "a lot that did not pass", closed(0, 0, 2, 5, 0, 0, 6, 0, 0, 7, 5));
        refused(c, "no lot with passes", closed(0, 0, 2, 5, 0, 0, 6, 0, 0, 5, 255));
        refused(c, "no lots with passes", closed(0, 0, 1, 5, 0, 0, 255, 255));
        refused(c, "a lot without passes", closed(0, 0, 0, 255, 5));
        refused(c, "a lot without passes", closed(0, 0, 0, 0, 255));
        refused(c, "a lot above 63", closed(0, 0, 1, 5, 0, 0, 5, 69));
    }

    private static void refusals(Check c) {
        HoodBook x = new HoodBook();
        c.dueRow("status", x::status, 0, 0, 0, 0, 0, 0, -1);
        x.end(1);
        x.open();
        x.open();
        x.pass(0, 0, 0);
        x.toss(1);
        x.pass(0, 0, 0);
        x.night();
        x.night();
        x.night();
        x.night();
        for (int k = 0; k < 5; k++) {
            x.undo();
            x.seed(-1);
        }
        x.on();
        x.ask();
        x.octet(9);
        x.same(5);
        c.dueRow("status", x::status, 1, 2, 3, 4, 5, 6, -1);
        c.due("status(-1)", x.status(-1), -1);
        c.due("status(min)", x.status(Integer.MIN_VALUE), -1);
        c.due("status(max)", x.status(Integer.MAX_VALUE), -1);
        Check.open(x, NIGHT);
        c.dueRow("status behind open", x::status, 1, 2, 3, 4, 5, 6, -1);
    }
}
