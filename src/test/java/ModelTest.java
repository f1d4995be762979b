import java.nio.charset.StandardCharsets;
import java.util.ArrayList;
import java.util.List;
import java.util.Random;

/** Promises 1 to 37: random runs of calls, each answer beside that of Naive. */
public final class ModelTest {
    private final Check c = new Check("ModelTest");
    private Random random;
    private Texts texts;
    private HoodBook x;
    private Naive n;
    private int run;
    private int calls;

    public static void main(String[] args) {
        int runs = args.length > 0 ? Integer.parseInt(args[0]) : 400;
        int from = args.length > 1 ? Integer.parseInt(args[1]) : 0;
        ModelTest t = new ModelTest();
        for (int k = from; k < from + runs; k++) {
            t.oneRun(k);
        }
        t.c.finish();
    }

    /** What an object answers behind its 512th call is free. */
    private void due(String call, long got, long want) {
        calls++;
        if (calls <= 512) {
            c.due("run " + run + ": " + call, got, want);
        }
    }

    private void due(String call, boolean got, boolean want) {
        due(call, got ? 1 : 0, want ? 1 : 0);
    }

    private void oneRun(int k) {
        run = k;
        calls = 0;
        random = new Random(k);
        texts = new Texts(random);
        x = new HoodBook();
        n = new Naive();
        int acts = 10 + random.nextInt(60);
        for (int a = 0; a < acts && calls < 512; a++) {
            act();
            for (int q = random.nextInt(8); q > 0; q--) {
                look();
            }
        }
        for (int what = -1; what < 7; what++) {
            due("status", x.status(what), n.status(what));
        }
    }

    private int about(int most) {
        return random.nextInt(12) == 0 ? random.nextInt(3) * (most + 1) - 1 : random.nextInt(most + 1);
    }

    private void feed(byte[] bytes) {
        due("end(0)", x.end(0), n.end(0));
        for (int from = 0; from < bytes.length; from += 20) {
            int[] w = new int[5];
            for (int k = 0; k < 20; k++) {
                int b = from + k < bytes.length ? bytes[from + k] & 255 : random.nextInt(256);
                w[k / 4] = w[k / 4] << 8 | b;
            }
            due("feed", x.feed(w[0], w[1], w[2], w[3], w[4]), n.feed(w));
        }
        due("end", x.end(bytes.length), n.end(bytes.length));
    }

    private void feed(String text) {
        feed(text.getBytes(StandardCharsets.ISO_8859_1));
    }

    private void act() {
        int kind = random.nextInt(20);
        if (kind == 0 || n.statements == 0 && kind < 12) {
            String text = texts.night();
            feed(text);
            due("open '" + text + "'", x.open(), n.open());
            due("fault(0) of '" + text + "'", x.fault(0), n.fault(0));
            due("fault(1) of '" + text + "'", x.fault(1), n.fault(1));
        } else if (kind <= 5) {
            String text = texts.question();
            feed(text);
            due("ask '" + text + "'", x.ask(), n.ask());
            due("fault(0) of '" + text + "'", x.fault(0), n.fault(0));
            due("fault(1) of '" + text + "'", x.fault(1), n.fault(1));
        } else if (kind <= 11) {
            int hood = about(random.nextBoolean() ? 7 : 63);
            int gift = about(99);
            int gate = about(1);
            due("pass", x.pass(hood, gift, gate), n.pass(hood, gift, gate));
        } else if (kind <= 13) {
            due("night", x.night(), n.night());
        } else if (kind == 14) {
            int coin = about(99);
            due("toss", x.toss(coin), n.toss(coin));
        } else if (kind <= 16) {
            due("undo", x.undo(), n.undo());
        } else if (kind == 17) {
            int seed = random.nextInt();
            due("seed", x.seed(seed), n.seed(seed));
        } else {
            imageAndOn();
        }
    }

    private void imageAndOn() {
        due("image", x.image(), n.image());
        List<Integer> bytes = new ArrayList<>();
        int step = 1 + n.image.length / 40;
        for (int k = 0; k < n.image.length; k++) {
            if (k % step == 0 || k > n.image.length - 12) {
                due("octet", x.octet(k), n.octet(k));
            }
            bytes.add(n.image[k]);
        }
        due("octet", x.octet(n.image.length), -1);
        if (random.nextInt(3) != 0) {
            spoil(bytes);
        }
        byte[] raw = new byte[bytes.size()];
        for (int k = 0; k < raw.length; k++) {
            raw[k] = (byte) (int) bytes.get(k);
        }
        feed(raw);
        due("on", x.on(), n.on());
        for (int what = 0; what < 8; what++) {
            due("has behind on", x.has(what), n.has(what));
        }
    }

    /** One byte is another; now and then the last one is set right again. */
    private void spoil(List<Integer> bytes) {
        int at = random.nextInt(bytes.size());
        int other = random.nextBoolean() ? random.nextInt(256) : random.nextInt(70);
        int how = random.nextInt(6);
        if (how == 0) {
            bytes.add(at, other);
        } else if (how == 1) {
            bytes.remove(at);
        } else {
            bytes.set(at, other);
        }
        if (random.nextInt(4) != 0 && !bytes.isEmpty()) {
            bytes.remove(bytes.size() - 1);
            bytes.add(Naive.check(bytes));
        }
    }

    private void look() {
        int book = about(2);
        int hood = about(63);
        int k = about(9);
        int what = about(4);
        int kind = about(5);
        switch (random.nextInt(25)) {
            case 0: due("has", x.has(what + 3), n.has(what + 3)); break;
            case 1: due("mark", x.mark(hood, k), n.mark(hood, k)); break;
            case 2: due("passed", x.passed(hood, what), n.passed(hood, what)); break;
            case 3: due("least", x.least(book, k), n.least(book, k)); break;
            case 4: due("run", x.run(book), n.run(book)); break;
            case 5: due("often", x.often(book, k, what % 2), n.often(book, k, what % 2)); break;
            case 6: due("crossed", x.crossed(book, what, k), n.crossed(book, what, k)); break;
            case 7: due("bit", x.bit(book, hood), n.bit(book, hood)); break;
            case 8: due("bin", x.bin(book, k), n.bin(book, k)); break;
            case 9: due("sign", x.sign(book, k), n.sign(book, k)); break;
            case 10: due("lot", x.lot(k), n.lot(k)); break;
            case 11: due("says", x.says(book, what), n.says(book, what)); break;
            case 12: due("told", x.told(book, hood), n.told(book, hood)); break;
            case 13: due("was", x.was(book, hood), n.was(book, hood)); break;
            case 14: due("alike", x.alike(), n.alike()); break;
            case 15: due("truth", x.truth(book, what), n.truth(book, what)); break;
            case 16: due("times", x.times(book, hood), n.times(book, hood)); break;
            case 17: due("out", x.out(book, kind), n.out(book, kind)); break;
            case 18: due("few", x.few(kind, k), n.few(kind, k)); break;
            case 19: lookFar(kind); break;
            case 20: due("cross(" + kind + ")", x.cross(kind, what % 2), n.cross(kind, what % 2)); break;
            case 21: due("same", x.same(what - 1), n.same(what - 1)); break;
            case 22: due("same", x.same(-1), n.same(-1)); break;
            case 23: due("status", x.status(kind), n.status(kind)); break;
            default: due("has", x.has(what), n.has(what)); break;
        }
    }

    /** Naive is too slow to look at every coin often with many passes. */
    private void lookFar(int kind) {
        if (n.has(5) < 60 || random.nextInt(10) == 0) {
            due("best(" + kind + ")", x.best(kind, 0), n.best(kind, 0));
            due("best(" + kind + ")", x.best(kind, 1), n.best(kind, 1));
        }
    }
}
