import java.io.IOException;
import java.nio.file.Files;
import java.nio.file.Path;
import java.util.Arrays;
import java.util.regex.Matcher;
import java.util.regex.Pattern;

/** What stands around the terms and promises: what it is, the lead of the terms, the heads of the calls, what is free. */
final class EdgesOfDocument {
    private static final String TOLD = "book lines 2 rows 1;mix hood+line*100+coin;hoods 3 from 1 step 1 gives hood*10 gate 1;";

    private EdgesOfDocument() {
    }

    static void all(Sentences s) throws IOException {
        whatItIs(s);
        allItsCalls(s);
        booksAndSaying(s);
        truthAndOut(s);
        acts(s);
        heads(s);
        free(s);
    }

    /** The passes 5, 1, 2, 3, 5 with gifts 60, 10, 20, 30, 70; all but the first at gate 1; marks are hood + 100 line. */
    private static HoodBook example() {
        HoodBook x = Check.opened(TOLD);
        x.pass(5, 60, 0);
        x.night();
        x.pass(5, 70, 1);
        return x;
    }

    private static void whatItIs(Sentences s) {
        s.of("what", "Pilgrims are counted in a book of nine lines: a book and a night told as a text, how many lines, rows, hoods "
            + "that go by in rows with what they give, at which gate, how a hood is marked by a coin, by a small language.");
        HoodBook x = Check.opened("book lines 9 rows 3;hoods 2 from 7 step 1 gives hood*2+turn gate 1;"
            + "hoods 1 from 0 step 0 gives 3 gate 0;mix hood+line*100+coin*10;coin 4;");
        s.dueRow("has", x::has, 9, 3, 2, 3, 4, 0, 0, 0);
        s.due("mark", x.mark(7, 8), 847);
        s.due("night", x.night(), 3);
        s.dueRow("hoods", k -> x.passed(k, 0), 7, 8, 0, -1);
        s.dueRow("gifts", k -> x.passed(k, 1), 14, 17, 3, -1);
        s.dueRow("gates", k -> x.passed(k, 2), 1, 1, 0, -1);
        s.refuses("book lines 10 rows 3;", 2, 11);
    }

    private static void allItsCalls(Sentences s) {
        s.of("what", "An object is used for at most 512 calls after it has been made; what later calls answer is free.");
        HoodBook x = new HoodBook();
        int calls = 2;
        x.feed(0x626f6f6b, 0x206c696e, 0x65732031, 0x20726f77, 0x7320313b);
        s.due("open", x.open(), 1);
        for (int n = 1; n <= 400; n++) {
            s.due("pass", x.pass(n % 64, n % 100, n % 2), n);
            calls++;
        }
        for (int n = 1; calls < 510; n++) {
            s.due("pass", x.pass(0, 0, 0), -1);
            s.due("status", x.status(2), n);
            calls += 2;
        }
        s.due("the 511th call", x.truth(2, 0), 400);
        s.due("the 512th call", x.has(6), 64);
    }

    private static void booksAndSaying(Sentences s) {
        s.of("terms", "Hood by hood the books of both gates, and of both together, are kept in few lines;");
        HoodBook x = example();
        s.dueRow("passes of each", book -> x.truth(book, 0), 1, 4, 5, -1);
        s.dueRow("least of gate 0", k -> x.least(0, k), 5, -1);
        s.dueRow("least of gate 1", k -> x.least(1, k), 1, 2, -1);
        s.dueRow("least of both", k -> x.least(2, k), 1, 2, -1);
        s.of("terms", "what each says, how many unlike ones, by least marks and by runs of noughts, who came oftenest,");
        s.dueRow("unlike", book -> x.says(book, 0), 1, 500, 500, -1);
        s.dueRow("runs", book -> x.says(book, 1), 1, 2, 2, -1);
        s.dueRow("oftenest", book -> x.says(book, 3), 5, 5, 3, -1);
        s.of("terms", "how often one came at the most, whether one was there,");
        for (int hood = 0; hood < 64; hood++) {
            s.due("told " + hood, x.told(2, hood), hood % 2 == 0 ? 1 : 4);
            int of = hood % 16;
            s.due("was " + hood, x.was(2, hood), of == 1 || of == 2 || of == 3 || of == 5 ? 1 : 0);
            s.due("at the most", x.told(2, hood) >= x.times(2, hood), true);
            s.due("there", x.was(2, hood) == 1 || x.times(2, hood) == 0, true);
        }
        s.of("terms", "what the middle one gave, a lot drawn of all, how alike two gates are;");
        s.dueRow("middle", book -> x.says(book, 2), 50, 0, 0, -1);
        for (int line = 0; line < 2; line++) {
            s.due("a lot is one that passed", x.times(2, x.lot(line)) > 0, true);
        }
        s.due("alike", x.alike(), 0);
        x.pass(1, 0, 0);
        s.due("alike", x.alike(), 2);
    }

    private static void truthAndOut(Sentences s) {
        HoodBook x = example();
        s.of("terms", "the truth beside it;");
        s.dueRow("truth of all", what -> x.truth(2, what), 5, 4, 5, 2, 30, -1);
        s.of("terms", "how far each is out;");
        s.dueRow("out of all", kind -> x.out(2, kind), 496, 2, 4, 12, 30, 1, -1);
        s.dueRow("out of gate 0", kind -> x.out(0, kind), 0, 0, 1, 3, 10, 0, -1);
        s.of("terms", "with how few lines it would not be,");
        // The bin of 30 begins at 25 with 4 lines, and at 30 with none of 1 to 9.
        s.due("few by the middle", x.few(4, 5), 4);
        s.due("few by the middle", x.few(4, 4), 7);
        s.due("few by the middle", x.few(4, 0), -1);
        s.due("few by often", x.few(5, 0), 4);
        s.of("terms", "by which coin it is least,");
        s.dueRow("best by runs", what -> x.best(1, what), 5, 0, -1);
        s.of("terms", "which hood would make it err most,");
        s.dueRow("cross by runs", what -> x.cross(1, what), 28, 123, -1);
        s.of("terms", "which ones would leave no trace;");
        s.due("how many", x.same(-1), 16);
        s.dueRow("same", x::same, 1, 2, 3, 5, 17, 18, 19, 21, 33, 34, 35, 37, 49, 50, 51, 53, -1);
    }

    private static void acts(Sentences s) {
        s.of("terms", "hoods passing one by one, or as the night tells, other coins;");
        HoodBook x = Check.opened(TOLD);
        s.due("pass", x.pass(5, 60, 0), 1);
        s.due("night", x.night(), 4);
        s.due("toss", x.toss(7), true);
        s.due("mark", x.mark(5, 1), 112);
        s.dueRow("least", k -> x.least(2, k), 8, 9, -1);
        s.of("terms", "questions of all hoods;");
        s.due("ask", Check.ask(x, "total times"), 4);
        s.due("ask", Check.ask(x, "often at 1>0"), 3);
        s.due("ask", Check.ask(x, "last mark 1>108"), 5);
        s.of("terms", "acts undone, images.");
        int[] image = Check.octets(x);
        s.due("bytes", image.length, 3 + 3 * 4 + 2 + 1);
        s.due("undo the coin", x.undo(), true);
        s.due("undo the night", x.undo(), true);
        s.dueRow("has", x::has, 2, 1, 1, 3, 0, 1, 1, 1);
        Check.write(x, image);
        s.due("on", x.on(), true);
        s.dueRow("has", x::has, 2, 1, 1, 3, 7, 4, 4, 0);
        s.due("the same image", Arrays.equals(Check.octets(x), image), true);
    }

    private static void heads(Sentences s) throws IOException {
        head(s, "---- books (0, 1, 2).", "least", "run", "often", "crossed", "bit", "bin", "sign", "lot");
        HoodBook x = example();
        for (int book = -1; book <= 3; book++) {
            int[] of = {x.least(book, 0), x.run(book), x.often(book, 0, 0), x.crossed(book, 0, 0), x.bit(book, 0),
                x.bin(book, 0), x.sign(book, 0)};
            for (int answer : of) {
                s.due("book " + book, answer != -1, book >= 0 && book <= 2);
            }
        }
        head(s, "---- what they say, the truth.", "says", "told", "was", "alike", "truth", "times");
        head(s, "---- how far out.", "out", "few", "best", "cross", "same");
        head(s, "---- acts.", "pass", "night", "toss", "undo", "seed");
        head(s, "---- questions.", "ask");
        head(s, "---- images, refusals.", "image", "octet", "on", "status");
    }

    /** The calls stand behind such a line in the class, in that order and no others. */
    private static void head(Sentences s, String line, String... calls) throws IOException {
        s.of("ahead", "Ahead of the calls `" + String.join("`, `", calls) + "` the interface says: " + line);
        String source = Files.readString(Path.of("src/main/java/HoodBook.java"));
        String comment = "    // " + line.substring(0, line.length() - 1) + "\n";
        s.due("stands in the class", source.contains(comment), true);
        String behind = source.substring(Math.max(0, source.indexOf(comment)) + comment.length());
        String part = behind.contains("    // ----") ? behind.substring(0, behind.indexOf("    // ----")) : behind;
        Matcher m = Pattern.compile("(?m)^    public \\w+ (\\w+)\\(").matcher(part);
        for (String call : calls) {
            s.due(call + " stands behind it", m.find() && m.group(1).equals(call), true);
        }
        s.due("another call stands behind it", m.find(), false);
    }

    private static void free(Sentences s) {
        s.of("free", "How the state is held inside the object is free, as are the speed of each call, the text of toString and the "
            + "behaviour of equals and hashCode.");
        for (String name : new String[] {"toString", "equals", "hashCode"}) {
            s.due(name + " is of its own", Arrays.stream(HoodBook.class.getDeclaredMethods())
                .anyMatch(m -> m.getName().equals(name)), false);
        }
        s.of("free", "Use of one object from several threads at once is not promised to be safe.");
        int[][] images = new int[4][];
        Thread[] threads = new Thread[images.length];
        for (int k = 0; k < threads.length; k++) {
            int of = k;
            threads[k] = new Thread(() -> images[of] = Check.octets(example()));
            threads[k].start();
        }
        for (int k = 0; k < threads.length; k++) {
            join(threads[k]);
            s.due("objects of several threads answer alike", Arrays.equals(images[k], Check.octets(example())), true);
        }
        s.of("free", "Nothing is promised beyond the answers and state changes described above, and nothing about an object after its "
            + "512th call.");
        HoodBook x = example();
        HoodBook other = Check.opened("book lines 9 rows 3;coin 9;");
        other.seed(77);
        other.pass(63, 99, 1);
        s.dueRow("another object changes nothing", x::has, 2, 1, 1, 3, 0, 5, 4, 3);
        s.due("nor its draws", Arrays.equals(Check.octets(x), Check.octets(example())), true);
    }

    private static void join(Thread thread) {
        try {
            thread.join();
        } catch (InterruptedException e) {
            throw new IllegalStateException(e);
        }
    }
}
