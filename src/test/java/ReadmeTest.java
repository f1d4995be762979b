import java.io.IOException;
import java.lang.reflect.Method;
import java.lang.reflect.Modifier;
import java.nio.file.Files;
import java.nio.file.Path;
import java.util.Arrays;
import java.util.List;
import java.util.regex.Matcher;
import java.util.regex.Pattern;

/** README.md: each call of its example answers what stands behind it, and its tell() is the one below. */
public final class ReadmeTest {
    private static final Pattern BLOCK = Pattern.compile("(?s)```java\n(.*?)```");
    private static final Pattern TELL = Pattern.compile("tell\\(book, \"(.*)\"\\);");
    private static final Pattern CALL = Pattern.compile("book\\.(\\w+)\\(([-0-9, ]*)\\); *// (-?\\d+|true|false)(:.*)?");

    private final Check c = new Check("ReadmeTest");
    private HoodBook book;

    public static void main(String[] args) throws Exception {
        ReadmeTest t = new ReadmeTest();
        String readme = Files.readString(Path.of("README.md"));
        List<String> blocks = BLOCK.matcher(readme).results().map(m -> m.group(1)).toList();
        t.c.due("blocks of code", blocks.size(), 2);
        t.sameTell(blocks.get(0));
        for (String line : blocks.get(1).split("\n")) {
            t.make(line.strip());
        }
        t.everyCallIsNamed(readme);
        t.c.finish();
    }

    static void tell(HoodBook book, String text) {
        book.end(0);
        for (int from = 0; from < text.length(); from += 20) {
            int[] w = new int[5];
            for (int k = 0; k < 20; k++) {
                int sign = from + k < text.length() ? text.charAt(from + k) : ' ';
                w[k / 4] = w[k / 4] << 8 | sign;
            }
            book.feed(w[0], w[1], w[2], w[3], w[4]);
        }
        book.end(text.length());
    }

    private void sameTell(String block) throws IOException {
        String own = Files.readString(Path.of("src/test/java/ReadmeTest.java")).replaceAll("\\s+", " ");
        c.due("tell() is that of this test", own.contains(block.strip().replaceAll("\\s+", " ")), true);
    }

    private void make(String line) throws ReflectiveOperationException {
        Matcher tell = TELL.matcher(line);
        Matcher call = CALL.matcher(line);
        if (line.equals("HoodBook book = new HoodBook();")) {
            book = new HoodBook();
        } else if (tell.matches()) {
            tell(book, tell.group(1));
        } else if (call.matches()) {
            String answer = answerOf(call.group(1), call.group(2));
            c.due(line + " answers " + answer, answer.equals(call.group(3)), true);
        } else {
            c.due("'" + line + "' is a comment or empty", line.isEmpty() || line.startsWith("// "), true);
        }
    }

    private String answerOf(String name, String list) throws ReflectiveOperationException {
        Object[] with = Arrays.stream(list.split(", *")).filter(n -> !n.isEmpty()).map(Integer::valueOf).toArray();
        Class<?>[] types = new Class<?>[with.length];
        Arrays.fill(types, int.class);
        return String.valueOf(HoodBook.class.getMethod(name, types).invoke(book, with));
    }

    private void everyCallIsNamed(String readme) {
        for (Method m : HoodBook.class.getDeclaredMethods()) {
            if (Modifier.isPublic(m.getModifiers())) {
                c.due(m.getName() + " is named", readme.contains("`" + m.getName() + "`"), true);
            }
        }
    }
}
