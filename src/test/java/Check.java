import java.nio.charset.StandardCharsets;

/** Counts the answers that are not as due, and writes texts on a book's tape. */
class Check {
    private final String name;
    private int calls;
    private int wrong;

    Check(String name) {
        this.name = name;
    }

    void due(String call, long got, long want) {
        calls++;
        if (got != want) {
            wrong++;
            System.out.println(name + ": " + call + " answered " + got + ", due is " + want);
        }
    }

    void due(String call, boolean got, boolean want) {
        due(call, got ? 1 : 0, want ? 1 : 0);
    }

    /** The rows of answers, one call each, told by k = 0, 1, .. */
    void dueRow(String call, java.util.function.IntUnaryOperator got, int... want) {
        for (int k = 0; k < want.length; k++) {
            due(call + " k=" + k, got.applyAsInt(k), want[k]);
        }
    }

    void dueFault(String text, HoodBook x, int fault, int place) {
        due("fault(0) of '" + text + "'", x.fault(0), fault);
        due("fault(1) of '" + text + "'", x.fault(1), place);
    }

    /** A new object takes the text as its night. */
    void opens(String text, int statements) {
        HoodBook x = new HoodBook();
        due("open '" + text + "'", open(x, text), statements);
        dueFault(text, x, 0, -1);
        due("status(1)", x.status(1), 0);
    }

    /** A new object refuses the text, and the tape goes. */
    void refuses(String text, int fault, int place) {
        HoodBook x = new HoodBook();
        due("open '" + text + "'", open(x, text), -1);
        dueFault(text, x, fault, place);
        due("status(1)", x.status(1), 1);
        due("feed behind it", x.feed(0, 0, 0, 0, 0), 20);
    }

    void finish() {
        System.out.println(name + ": " + calls + " answers, " + wrong + " not as due");
        if (wrong != 0) {
            System.exit(1);
        }
    }

    static void write(HoodBook x, String text) {
        byte[] bytes = text.getBytes(StandardCharsets.ISO_8859_1);
        int[] numbers = new int[bytes.length];
        for (int k = 0; k < bytes.length; k++) {
            numbers[k] = bytes[k] & 255;
        }
        write(x, numbers);
    }

    static void write(HoodBook x, int[] bytes) {
        x.end(0);
        int[] w = new int[5];
        for (int from = 0; from < bytes.length; from += 20) {
            for (int k = 0; k < 5; k++) {
                w[k] = 0;
                for (int b = 0; b < 4; b++) {
                    int at = from + 4 * k + b;
                    w[k] = w[k] << 8 | (at < bytes.length ? bytes[at] : ' ');
                }
            }
            x.feed(w[0], w[1], w[2], w[3], w[4]);
        }
        x.end(bytes.length);
    }

    static int open(HoodBook x, String text) {
        write(x, text);
        return x.open();
    }

    static HoodBook opened(String text) {
        HoodBook x = new HoodBook();
        if (open(x, text) < 0) {
            throw new IllegalStateException("refused: " + text + " fault " + x.fault(0) + " at " + x.fault(1));
        }
        return x;
    }

    static long ask(HoodBook x, String text) {
        write(x, text);
        return x.ask();
    }

    static int[] octets(HoodBook x) {
        int[] bytes = new int[x.image()];
        for (int k = 0; k < bytes.length; k++) {
            bytes[k] = x.octet(k);
        }
        return bytes;
    }
}
