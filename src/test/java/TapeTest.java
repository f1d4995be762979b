/** Promises 1 to 3, and the constants. */
public final class TapeTest {
    public static void main(String[] args) {
        Check c = new Check("TapeTest");
        c.due("NONE", HoodBook.NONE, -1);
        c.due("NOTHING", HoodBook.NOTHING, -1_000_000_000_000_000L);
        newObject(c);
        feeding(c);
        ending(c);
        c.finish();
    }

    private static void newObject(Check c) {
        HoodBook x = new HoodBook();
        for (int what = 0; what < 8; what++) {
            c.due("has(" + what + ")", x.has(what), 0);
        }
        c.due("least", x.least(2, 0), -1);
        c.due("bin", x.bin(0, 0), -1);
        c.due("truth", x.truth(2, 0), -1);
        c.due("alike", x.alike(), -1);
        c.due("status(0)", x.status(0), 0);
    }

    private static void feeding(Check c) {
        HoodBook x = new HoodBook();
        for (int k = 1; k <= 80; k++) {
            c.due("feed " + k, x.feed(0, 0, 0, 0, 0), 20 * k);
        }
        c.due("feed 81", x.feed(0, 0, 0, 0, 0), -1);
        c.due("status(0)", x.status(0), 1);
        c.due("end(1581)", x.end(1581), true);
        c.due("feed beyond", x.feed(0, 0, 0, 0, 0), -1);
        c.due("end(1580)", x.end(1580), true);
        c.due("feed to 1600", x.feed(0, 0, 0, 0, 0), 1600);
        c.due("status(0)", x.status(0), 2);
        // The order of the bytes: the fault stands at the first that is no blank.
        HoodBook y = new HoodBook();
        y.feed(0x20202020, 0x2020200A, 0x0A204020, 0, -1);
        c.due("open", y.open(), -1);
        c.due("place", y.fault(1), 10);
        // Bytes from 128 on are bytes like others, no blanks.
        y.feed(0x2020E020, -1, -1, -1, -1);
        c.due("open", y.open(), -1);
        c.due("place", y.fault(1), 2);
    }

    private static void ending(Check c) {
        HoodBook x = new HoodBook();
        c.due("end(0)", x.end(0), true);
        c.due("end(1)", x.end(1), false);
        c.due("end(-1)", x.end(-1), false);
        c.due("end(min)", x.end(Integer.MIN_VALUE), false);
        c.due("end(max)", x.end(Integer.MAX_VALUE), false);
        c.due("status(0)", x.status(0), 4);
        x.feed(1, 2, 3, 4, 5);
        c.due("end(21)", x.end(21), false);
        c.due("end(20)", x.end(20), true);
        c.due("end(7)", x.end(7), true);
        c.due("end(8)", x.end(8), false);
        c.due("feed", x.feed(1, 2, 3, 4, 5), 27);
        c.due("status(0)", x.status(0), 6);
    }
}
