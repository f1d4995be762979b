import java.io.IOException;
import java.lang.reflect.Constructor;
import java.lang.reflect.Field;
import java.lang.reflect.Method;
import java.lang.reflect.Modifier;
import java.nio.file.Files;
import java.nio.file.Path;
import java.util.ArrayList;
import java.util.Arrays;
import java.util.List;
import java.util.Set;
import java.util.TreeSet;
import java.util.regex.Matcher;
import java.util.regex.Pattern;
import java.util.stream.Collectors;

/** The public face as the document has it, and what LANGUAGE.md leaves out. */
public final class FaceTest {
    private static final String[] METHODS = {
        "int feed(int,int,int,int,int)", "boolean end(int)", "int open()", "int fault(int)", "int has(int)",
        "int mark(int,int)", "int passed(int,int)", "int least(int,int)", "int run(int)", "int often(int,int,int)",
        "int crossed(int,int,int)", "int bit(int,int)", "int bin(int,int)", "int sign(int,int)", "int lot(int)",
        "int says(int,int)", "int told(int,int)", "int was(int,int)", "int alike()", "int truth(int,int)",
        "int times(int,int)", "int out(int,int)", "int few(int,int)", "int best(int,int)", "int cross(int,int)",
        "int same(int)", "int pass(int,int,int)", "int night()", "boolean toss(int)", "boolean undo()",
        "boolean seed(int)", "long ask()", "int image()", "int octet(int)", "boolean on()", "int status(int)"};
    private static final String[] NOT_THERE = {"throw", "try", "catch", "synchronized", "assert", "static\\s*\\{",
        "->", "::", "\\bnew\\s+\\w+\\s*\\([^()]*\\)\\s*\\{", "\\bfloat\\b", "\\bdouble\\b", "Exact\\(", "System\\.(?!arraycopy)",
        "import\\s+(?!java\\.util\\.Arrays;)", "^package", "\\bThread\\b", "\\bRandom\\b", "\""};

    public static void main(String[] args) throws IOException {
        Check c = new Check("FaceTest");
        face(c);
        documented(c);
        inside(c);
        source(c);
        c.finish();
    }

    private static void face(Check c) {
        Class<?> k = HoodBook.class;
        c.due("public final", Modifier.isPublic(k.getModifiers()) && Modifier.isFinal(k.getModifiers()), true);
        Set<String> have = new TreeSet<>();
        for (Method m : k.getDeclaredMethods()) {
            if (!Modifier.isPrivate(m.getModifiers())) {
                String of = Arrays.stream(m.getParameterTypes()).map(Class::getName).collect(Collectors.joining(","));
                have.add(m.getReturnType().getName() + " " + m.getName() + "(" + of + ")");
                c.due(m + " is public", Modifier.isPublic(m.getModifiers()), true);
                c.due(m + " is static", Modifier.isStatic(m.getModifiers()), false);
            }
        }
        c.due("methods " + have, have.equals(new TreeSet<>(Arrays.asList(METHODS))), true);
        for (Field f : k.getDeclaredFields()) {
            boolean constant = f.getName().equals("NONE") || f.getName().equals("NOTHING");
            c.due(f + " is open", !Modifier.isPrivate(f.getModifiers()), constant);
        }
        Constructor<?>[] constructors = k.getDeclaredConstructors();
        c.due("constructors", constructors.length, 1);
        c.due("its parameters", constructors[0].getParameterCount(), 0);
    }

    /** The face above is that of the document, and each member of it has its promise, in that order. */
    private static void documented(Check c) throws IOException {
        Path path = Path.of("../shared/DOC.md");
        if (!Files.exists(path)) {
            return;
        }
        String document = Files.readString(path);
        List<String> members = found(document, "(?m)^    public ([^;]*);$");
        List<String> due = new ArrayList<>(List.of("static final int NONE = " + HoodBook.NONE,
            "static final long NOTHING = " + HoodBook.NOTHING + "L", "HoodBook()"));
        due.addAll(Arrays.asList(METHODS));
        c.due("members", members.size(), due.size());
        for (int k = 0; k < Math.min(members.size(), due.size()); k++) {
            c.due(members.get(k) + " is " + due.get(k), withoutNames(members.get(k)).equals(due.get(k)), true);
        }
        List<String> promises = found(document, "(?m)^## Promise \\d+: .*\n\n`([^`]*)`: ");
        c.due("promises are of the members behind the constants",
            promises.equals(members.subList(Math.min(2, members.size()), members.size())), true);
        List<String> heads = found(document, "(?m)^## Promise (\\d+: .*)$");
        for (int k = 0; k < heads.size(); k++) {
            String name = k == 0 ? "A new object" : METHODS[Math.min(k, METHODS.length) - 1].replaceAll("^\\w+ |\\(.*", "");
            c.due("head of promise " + heads.get(k), heads.get(k).equals(k + 1 + ": " + name), true);
        }
        c.due("promises", heads.size(), 37);
    }

    private static List<String> found(String text, String pattern) {
        return Pattern.compile(pattern).matcher(text).results().map(m -> m.group(1)).toList();
    }

    private static String withoutNames(String member) {
        int open = member.indexOf('(');
        return open < 0 ? member : member.substring(0, open) + member.substring(open).replaceAll(" \\w+(?=[,)])", "")
            .replace(", ", ",");
    }

    private static void inside(Check c) {
        Set<String> names = new TreeSet<>();
        for (String m : METHODS) {
            names.add(m.replaceAll("^\\w+ (\\w+)\\(.*", "$1"));
        }
        Class<?>[] classes = HoodBook.class.getDeclaredClasses();
        c.due("classes are at most 12", classes.length + 1 <= 12, true);
        for (Class<?> k : classes) {
            c.due(k + " is static", Modifier.isStatic(k.getModifiers()), true);
            c.due(k + " is public", Modifier.isPublic(k.getModifiers()), false);
            for (Method m : k.getDeclaredMethods()) {
                c.due(m + " bears a public name", names.contains(m.getName()), false);
                c.due(m + " has at most 7 parameters", m.getParameterCount() <= 7, true);
            }
            long fields = Arrays.stream(k.getDeclaredFields()).filter(f -> !Modifier.isStatic(f.getModifiers())).count();
            c.due(k + " has at most 20 fields", fields <= 20, true);
        }
        for (Method m : HoodBook.class.getDeclaredMethods()) {
            if (Modifier.isPrivate(m.getModifiers())) {
                c.due(m + " bears a public name", names.contains(m.getName()), false);
            }
        }
    }

    private static void source(Check c) throws IOException {
        String text = Files.readString(Path.of("src/main/java/HoodBook.java"));
        String code = text.replaceAll("(?s)/\\*.*?\\*/", "").replaceAll("//[^\n]*", "");
        for (String no : NOT_THERE) {
            Matcher m = Pattern.compile(no, Pattern.MULTILINE).matcher(code);
            c.due("there is /" + no + "/", m.find(), false);
        }
        c.due("signs 1 to 127", text.chars().allMatch(b -> b < 128), true);
        int longest = 0;
        int start = 0;
        String[] lines = code.split("\n", -1);
        for (int k = 0; k < lines.length; k++) {
            if (lines[k].matches("( {4}| {8})\\S.*\\) \\{") ) {
                start = k;
            }
            if (lines[k].matches(" {4}\\}| {8}\\}")) {
                longest = Math.max(longest, k - start);
            }
        }
        c.due("methods of at most 60 lines", longest <= 60, true);
    }
}
