import com.sun.management.ThreadMXBean;
import java.lang.management.ManagementFactory;
import java.util.Random;

/** Any call, with any arguments and bytes, ends without a throw and makes no objects; one object is small. */
public final class RoomTest {
    private static final int[] EDGES = {Integer.MIN_VALUE, -1000, -2, -1, 0, 1, 2, 3, 4, 5, 6, 7, 8, 9, 10, 63, 64, 71,
        72, 98, 99, 100, 399, 400, 401, 1599, 1600, 9999, 10000, Integer.MAX_VALUE};
    private static final String[] NIGHTS = {"book lines 9 rows 3;hoods 99 from 7 step 11 gives hood*turn/3 gate 1;",
        "book lines 1 rows 1;mix coin*hood+line;coin 3;hoods 5 from 60 step 1 gives 0-hood gate 0;",
        "book lines 4 rows 2;mix 0;"};
    private static final String[] QUESTIONS = {"often told>times or mark line=3", "total mark(hood/9)*at 1-gifts",
        "first not[told=1 and hood>7]", "least min(times,3)*coin"};

    public static void main(String[] args) {
        Check c = new Check("RoomTest");
        noThrow(c);
        noObjects(c);
        c.finish();
    }

    private static void noThrow(Check c) {
        Random random = new Random(8);
        for (int run = 0; run < 400; run++) {
            HoodBook x = new HoodBook();
            int at = 0;
            try {
                for (at = 0; at < 512; at++) {
                    call(x, random, 50);
                }
            } catch (RuntimeException e) {
                e.printStackTrace(System.out);
            }
            c.due("calls of run " + run, at, 512);
        }
    }

    private static void noObjects(Check c) {
        ThreadMXBean bean = (ThreadMXBean) ManagementFactory.getThreadMXBean();
        Random random = new Random(9);
        for (int k = 0; k < 20; k++) {
            HoodBook warm = new HoodBook();
            for (int n = 0; n < 512; n++) {
                call(warm, random, 3);
            }
        }
        long before = bean.getCurrentThreadAllocatedBytes();
        HoodBook x = new HoodBook();
        long made = bean.getCurrentThreadAllocatedBytes();
        c.due("an object is below 64 KiB: " + (made - before), made - before < 65536, true);
        tell(x, NIGHTS[0]);
        x.open();
        x.night();
        long start = bean.getCurrentThreadAllocatedBytes();
        for (int n = 0; n < 3; n++) {
            everyCall(x);
        }
        long end = bean.getCurrentThreadAllocatedBytes();
        c.due("bytes made by calls, " + (end - start), end - start < 4096, true);
    }

    private static void everyCall(HoodBook x) {
        for (int k = 0; k < 6; k++) {
            x.out(2, k);
            x.few(k, 3);
            x.best(k, 0);
            x.cross(k, 0);
        }
        x.same(-1);
        x.pass(3, 4, 0);
        x.toss(x.has(4) + 1);
        x.undo();
        x.night();
        x.undo();
        x.image();
        x.feed(0x6f667465, 0x6e20616c, 0x6c206f72, 0x20313d31, 0x20202020);
        x.ask();
        x.feed(0x626f6f6b, 0x206c696e, 0x65732031, 0x20726f77, 0x7320313b);
        x.open();
        x.alike();
        x.pass(3, 4, 0);
        x.truth(2, 2);
        x.says(2, 0);
        x.on();
    }

    private static void tell(HoodBook x, String text) {
        Check.write(x, text);
    }

    private static int edge(Random random) {
        return random.nextInt(3) == 0 ? EDGES[random.nextInt(EDGES.length)] : random.nextInt(12);
    }

    private static void call(HoodBook x, Random random, int wild) {
        int a = edge(random);
        int b = edge(random);
        int d = edge(random);
        switch (random.nextInt(40)) {
            case 0: x.feed(a, b, d, random.nextInt(), random.nextInt()); break;
            case 1: x.end(a); break;
            case 2: tellOne(x, random, wild); x.open(); break;
            case 3: x.fault(a); break;
            case 4: x.has(a); break;
            case 5: x.mark(a, b); break;
            case 6: x.passed(a, b); break;
            case 7: x.least(a, b); break;
            case 8: x.run(a); break;
            case 9: x.often(a, b, d); break;
            case 10: x.crossed(a, b, d); break;
            case 11: x.bit(a, b); break;
            case 12: x.bin(a, b); break;
            case 13: x.sign(a, b); break;
            case 14: x.lot(a); break;
            case 15: x.says(a, b); break;
            case 16: x.told(a, b); break;
            case 17: x.was(a, b); break;
            case 18: x.alike(); break;
            case 19: x.truth(a, b); break;
            case 20: x.times(a, b); break;
            case 21: x.out(a, b); break;
            case 22: x.few(a, b); break;
            case 23: x.best(a, b); break;
            case 24: x.cross(a, b); break;
            case 25: x.same(a); break;
            case 26: x.pass(a, b, d); break;
            case 27: x.night(); break;
            case 28: x.toss(a); break;
            case 29: x.undo(); break;
            case 30: x.seed(a); break;
            case 31: tell(x, QUESTIONS[random.nextInt(QUESTIONS.length)]); x.ask(); break;
            case 32: x.ask(); break;
            case 33: x.image(); break;
            case 34: x.octet(a); break;
            case 35: x.on(); break;
            case 36: x.status(a); break;
            case 37: onAgain(x, random); break;
            default: x.pass(random.nextInt(64), random.nextInt(100), random.nextInt(2)); break;
        }
    }

    private static void tellOne(HoodBook x, Random random, int wild) {
        if (random.nextInt(wild) == 0) {
            StringBuilder deep = new StringBuilder("book lines 3 rows 3;mix ");
            while (deep.length() < 1500) {
                deep.append(random.nextBoolean() ? "(" : "max(1+2*");
            }
            tell(x, deep.toString());
        } else {
            tell(x, NIGHTS[random.nextInt(NIGHTS.length)]);
        }
    }

    private static void onAgain(HoodBook x, Random random) {
        int[] bytes = Check.octets(x);
        if (random.nextBoolean()) {
            bytes[random.nextInt(bytes.length)] = random.nextInt(256);
        }
        Check.write(x, bytes);
        x.on();
    }
}
