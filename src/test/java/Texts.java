import java.util.Random;

/** Random nights, questions and images, most of them good. */
final class Texts {
    private static final String[] ODD = {"hood", "turn", "line", "coin", "times", "told", "gifts", "mark", "at", "or",
        "and", "not", "all", "min", "max", "(", ")", "[", "]", "<", ">", "=", "+", "-", "*", "/", ",", ";", "12345",
        "0", "7", "book", "hoods", "mix", "gate", "x", "?", "often", "\t", "Q", "1a", "a1"};
    private final Random random;
    private String wording;

    Texts(Random random) {
        this.random = random;
    }

    private int upTo(int most) {
        return random.nextInt(most + 1);
    }

    private String pick(String... of) {
        return of[random.nextInt(of.length)];
    }

    private String blank() {
        return random.nextInt(6) == 0 ? pick("\n", "  ", " \n ") : " ";
    }

    private String maybe() {
        return random.nextInt(4) == 0 ? blank() : "";
    }

    String night() {
        StringBuilder b = new StringBuilder(maybe());
        b.append("book").append(blank()).append("lines ").append(1 + upTo(8)).append(blank());
        b.append("rows ").append(1 + upTo(2)).append(maybe()).append(";");
        int statements = random.nextInt(20) == 0 ? 30 + upTo(15) : upTo(5);
        boolean mixed = false;
        for (int k = 0; k < statements; k++) {
            int kind = upTo(5);
            if (kind <= 2) {
                b.append(maybe()).append(row()).append(maybe()).append(";");
            } else if (kind <= 4 && (!mixed || random.nextInt(20) == 0)) {
                mixed = true;
                wording = "mix";
                b.append("mix ").append(sum(upTo(3))).append(";").append(maybe());
            } else {
                b.append("coin ").append(random.nextInt(30) == 0 ? 100 : upTo(99)).append(";");
            }
        }
        return cut(spoilt(b.toString()));
    }

    private String row() {
        wording = "gives";
        int count = random.nextInt(5) == 0 ? 1 + upTo(98) : 1 + upTo(9);
        return "hoods " + count + " from " + upTo(63) + " step " + upTo(random.nextInt(30) == 0 ? 70 : 63)
            + " gives " + sum(upTo(2)) + blank() + "gate " + upTo(1);
    }

    String question() {
        wording = "question";
        String text = random.nextBoolean() ? pick("first ", "last ", "often ") + test(upTo(3))
            : pick("total ", "most ", "least ") + sum(upTo(4));
        return cut(spoilt(maybe() + text + maybe()));
    }

    private String test(int depth) {
        StringBuilder b = new StringBuilder(fact(depth));
        for (int k = upTo(2); k > 0; k--) {
            b.append(blank()).append(pick("or", "and")).append(blank()).append(fact(depth));
        }
        return b.toString();
    }

    private String fact(int depth) {
        int kind = upTo(7);
        if (kind == 0 && depth > 0) {
            return "not " + fact(depth - 1);
        }
        if (kind == 1 && depth > 0) {
            return "[" + test(depth - 1) + maybe() + "]";
        }
        if (kind == 2) {
            return "all";
        }
        return sum(depth > 0 ? depth - 1 : 0) + maybe() + pick("<", ">", "=") + maybe() + sum(0);
    }

    private String sum(int depth) {
        StringBuilder b = new StringBuilder(part(depth));
        for (int k = upTo(2); k > 0; k--) {
            b.append(maybe()).append(pick("+", "-", "*", "/", "*")).append(maybe()).append(part(depth));
        }
        return b.toString();
    }

    private String part(int depth) {
        int kind = upTo(9);
        if (depth > 0 && kind == 0) {
            return "(" + maybe() + sum(depth - 1) + ")";
        }
        if (depth > 0 && kind == 1) {
            return pick("min", "max") + maybe() + "(" + sum(depth - 1) + "," + maybe() + sum(depth - 1) + ")";
        }
        if (depth > 0 && kind <= 3 && wording.equals("question")) {
            return pick("mark ", "at ") + part(depth - 1);
        }
        if (kind == 4 && random.nextInt(4) == 0) {
            // Deep ones, about as many open as may be.
            int deep = 4 + upTo(3);
            return "(".repeat(deep) + "hood" + ")".repeat(deep);
        }
        if (kind <= 6) {
            return String.valueOf(random.nextInt(3) == 0 ? upTo(9999) : upTo(12));
        }
        switch (wording) {
            case "gives": return pick("hood", "turn");
            case "mix": return pick("hood", "line", "coin");
            default: return pick("hood", "times", "told", "gifts", "coin");
        }
    }

    /** Now and then a byte or a word is lost, put in, or another. */
    private String spoilt(String text) {
        if (random.nextInt(3) != 0 || text.isEmpty()) {
            return text;
        }
        int at = random.nextInt(text.length());
        int skip = random.nextInt(3) == 0 ? 0 : 1;
        switch (upTo(3)) {
            case 0: return text.substring(0, at);
            case 1: return text.substring(0, at) + text.substring(at + skip);
            case 2: return text.substring(0, at) + pick(ODD) + text.substring(at + skip);
            default: return text.substring(0, at) + " " + pick(ODD) + " " + text.substring(at);
        }
    }

    private static String cut(String text) {
        return text.length() <= 1600 ? text : text.substring(0, 1600);
    }
}
