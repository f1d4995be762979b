import java.util.ArrayList;
import java.util.List;
import java.util.regex.Matcher;
import java.util.regex.Pattern;

/** Terms I and promises 1 to 5: texts and their faults, the tape. */
final class EdgesOfNights {
    private static final int MIN = Integer.MIN_VALUE;
    private static final int MAX = Integer.MAX_VALUE;
    private static final String B = "book lines 1 rows 1;";
    private static final String H = "hoods 1 from 2 step 3 gives 4 gate 0;";
    private static final String FULL = "book lines 9 rows 3;hoods 12 from 34 step 56 gives min(hood,(turn+1)*2)/3 gate 1;"
        + "mix max(line,coin)-hood;coin 78;";
    private static final String ASKED = "first not[hood=1 or times>told and all]and gifts<mark 2+at 0";

    record Token(String text, int place) {
        boolean isWord() {
            return text.matches("[a-z]+");
        }

        boolean isNumber() {
            return text.matches("[0-9]+");
        }

        boolean needsBlank() {
            return isWord() || isNumber();
        }

        int end() {
            return place + text.length();
        }
    }

    private EdgesOfNights() {
    }

    static void all(Sentences s) {
        statements(s);
        bookStatement(s);
        hoodsStatement(s);
        mixAndCoin(s);
        sums(s);
        partsBySide(s);
        reckoning(s);
        limits(s);
        words(s);
        blanks(s);
        faultOne(s);
        otherFaults(s);
        newObject(s);
        feed(s);
        end(s);
        open(s);
        openRefused(s);
        openAnew(s);
        fault(s);
    }

    private static List<Token> tokens(String text) {
        List<Token> tokens = new ArrayList<>();
        Matcher m = Pattern.compile("[a-z]+|[0-9]+|[^ \n]").matcher(text);
        while (m.find()) {
            tokens.add(new Token(m.group(), m.start()));
        }
        return tokens;
    }

    private static String with(String text, Token token, String other) {
        return text.substring(0, token.place) + other + text.substring(token.end());
    }

    /** The mark of hood 0 in line 0, by this sum as mix. */
    private static void mark(Sentences s, String sum, int due) {
        s.due("mark by " + sum, Check.opened(B + "mix " + sum + ";").mark(0, 0), due);
    }

    private static void gift(Sentences s, String sum, int due) {
        HoodBook x = Check.opened(B + "hoods 1 from 0 step 0 gives " + sum + " gate 0;");
        x.night();
        s.due("gift by " + sum, x.passed(0, 1), due);
    }

    private static void statements(Sentences s) {
        s.of("I", "A NIGHT is a text: { STATEMENT ; }");
        s.opens(B, 1);
        s.opens(B + "coin 1;", 2);
        s.refuses("book lines 1 rows 1", 1, 19);
        s.refuses(B + "coin 1", 1, 26);
        s.refuses(B + "coin 1 coin 2;", 1, 27);
        s.refuses(B + ";", 1, 20);
        s.refuses(";" + B, 1, 0);
        s.refuses(B + "coin 1;;", 1, 27);
        s.of("I", "(40 at most):");
        s.opens(B + "coin 1;".repeat(38), 39);
        s.opens(B + "coin 1;".repeat(39), 40);
        s.refuses(B + "coin 1;".repeat(40), 5, 20 + 39 * 7);
        s.opens(B + H.repeat(20) + "mix 1;" + "coin 1;".repeat(18), 40);
    }

    private static void bookStatement(Sentences s) {
        s.of("I", "book lines N rows N (1 .. 9, 1 .. 3;");
        for (int lines = 1; lines <= 9; lines++) {
            for (int rows = 1; rows <= 3; rows++) {
                HoodBook x = Check.opened("book lines " + lines + " rows " + rows + ";");
                s.due("lines", x.has(0), lines);
                s.due("rows", x.has(1), rows);
            }
        }
        s.refuses("book lines 0 rows 1;", 2, 11);
        s.refuses("book lines 10 rows 1;", 2, 11);
        s.refuses("book lines 1 rows 0;", 2, 18);
        s.refuses("book lines 1 rows 4;", 2, 18);
        s.of("I", "the first STATEMENT, and it alone);");
        s.refuses("coin 1;" + B, 1, 0);
        s.refuses("mix 1;" + B, 1, 0);
        s.refuses(H + B, 1, 0);
        s.refuses("coin 1;", 1, 0);
        s.refuses(B + B, 1, 20);
        s.refuses(B + "coin 1;" + B, 1, 27);
    }

    private static void row(Sentences s, int count, int from, int step, int gate) {
        HoodBook x = Check.opened(B + "hoods " + count + " from " + from + " step " + step + " gives 4 gate " + gate + ";");
        x.night();
        s.due("passes", x.has(5), count);
        s.due("from", x.passed(0, 0), from);
        s.due("gate", x.passed(0, 2), gate);
        s.due("the last", x.passed(count - 1, 0), (from + (count - 1) * step) % 64);
    }

    private static void hoodsStatement(Sentences s) {
        s.of("I", "hoods N from N step N gives SUM gate N (1 .. 99;");
        row(s, 1, 2, 3, 0);
        row(s, 99, 2, 3, 0);
        s.refuses(B + "hoods 0 from 2 step 3 gives 4 gate 0;", 2, 26);
        s.refuses(B + "hoods 100 from 2 step 3 gives 4 gate 0;", 2, 26);
        s.of("I", "0 .. 63 each;");
        row(s, 2, 0, 0, 0);
        row(s, 2, 63, 63, 0);
        s.refuses(B + "hoods 1 from 64 step 3 gives 4 gate 0;", 2, 33);
        s.refuses(B + "hoods 1 from 2 step 64 gives 4 gate 0;", 2, 40);
        s.of("I", "0 or 1;");
        row(s, 1, 0, 0, 0);
        row(s, 1, 0, 0, 1);
        s.refuses(B + "hoods 1 from 2 step 3 gives 4 gate 2;", 2, 55);
        s.of("I", "20 of them);");
        HoodBook x = Check.opened(B + H.repeat(20));
        s.due("rows of hoods", x.has(2), 20);
        s.due("night", x.night(), 20);
        s.refuses(B + H.repeat(21), 5, 20 + 20 * 37);
    }

    private static void mixAndCoin(Sentences s) {
        s.of("I", "mix SUM (one);");
        s.opens(B + "mix 1;", 2);
        s.refuses(B + "mix;", 1, 23);
        s.refuses(B + "mix 1;mix 1;", 5, 26);
        s.due("at the end", Check.opened(B + H + "coin 2;mix 5;").mark(0, 0), 5);
        s.of("I", "coin N (0 .. 99;");
        s.due("coin 0", Check.opened(B + "coin 0;").has(4), 0);
        s.due("coin 99", Check.opened(B + "coin 99;").has(4), 99);
        s.refuses(B + "coin 100;", 2, 25);
        s.refuses(B + "coin -1;", 1, 25);
        s.of("I", "the last one counts,");
        s.due("coin", Check.opened(B + "coin 5;coin 7;").has(4), 7);
        s.due("coin", Check.opened(B + "coin 5;coin 7;coin 0;").has(4), 0);
        s.due("mark", Check.opened(B + "coin 5;mix coin;coin 7;").mark(0, 0), 7);
        s.of("I", "0 without).");
        s.due("coin", Check.opened(B).has(4), 0);
        HoodBook x = Check.opened(B + "coin 7;");
        Check.open(x, B);
        s.due("coin behind another night", x.has(4), 0);
    }

    private static void sums(Sentences s) {
        s.of("I", "SUM: PRODUCT { + or - PRODUCT }. PRODUCT: PART { * or / PART }.");
        mark(s, "2+3*4-1", 13);
        mark(s, "2*3+4/2", 8);
        for (String no : new String[] {"+1", "-1", "*1", "/1"}) {
            s.refuses(B + "mix " + no + ";", 1, 24);
        }
        for (String no : new String[] {"1+", "1-", "1*", "1/"}) {
            s.refuses(B + "mix " + no + ";", 1, 26);
            s.refuses(B + "mix " + no, 1, 26);
            s.refuses(B + "mix " + no + "+1;", 1, 26);
        }
        s.of("I", "PART: N (1 to 4 digits);");
        mark(s, "0", 0);
        mark(s, "7", 7);
        mark(s, "0000", 0);
        mark(s, "0007", 7);
        mark(s, "9999", 999);
        s.refuses(B + "mix 00000;", 1, 28);
        s.refuses(B + "mix 10000;", 1, 28);
        s.of("I", "hood; ( SUM ) ; min ( SUM , SUM ) ; max ( SUM , SUM ) ;");
        mark(s, "(1+2)*3", 9);
        mark(s, "hood+min(1+1,3)+max(2*2,1)*10", 42);
        mark(s, "min(5,5)+max(6,6)*10", 65);
        mark(s, "min(0-1,1)+max(0-1,1)*10", 9);
        s.refuses(B + "mix ();", 1, 25);
        s.refuses(B + "mix (1;", 1, 26);
        s.refuses(B + "mix 1);", 1, 25);
        for (String of : new String[] {"min", "max"}) {
            s.refuses(B + "mix " + of + "();", 1, 28);
            s.refuses(B + "mix " + of + "(1);", 1, 29);
            s.refuses(B + "mix " + of + "(1,);", 1, 30);
            s.refuses(B + "mix " + of + "(1,2,3);", 1, 31);
            s.refuses(B + "mix " + of + "(1,2;", 1, 31);
            s.refuses(B + "mix " + of + ";", 1, 27);
        }
    }

    private static void partsBySide(Sentences s) {
        s.of("I", "in gives: turn;");
        gift(s, "turn+5", 5);
        s.refuses(B + "mix turn;", 1, 24);
        for (String no : new String[] {"line", "coin", "times", "told", "gifts", "mark 0", "at 0", "all"}) {
            s.refuses(B + "hoods 1 from 2 step 3 gives " + no + " gate 0;", 1, 48);
        }
        s.of("I", "in mix: line; coin.");
        mark(s, "line+coin+5", 5);
        for (String no : new String[] {"times", "told", "gifts", "mark 0", "at 0", "all"}) {
            s.refuses(B + "mix " + no + ";", 1, 24);
        }
        s.of("I", "(Which HOOD; how many of its row went by ahead of it; which LINE; the COIN.)");
        HoodBook x = Check.opened(B + "hoods 3 from 62 step 1 gives hood+turn*10 gate 0;"
            + "hoods 2 from 5 step 0 gives turn gate 1;mix hood+line*100+coin;");
        x.night();
        s.dueRow("gifts, a row begins with turn 0", k -> x.passed(k, 1), 62, 73, 20, 0, 1);
        s.due("the first hood and line", x.mark(0, 0), 0);
        s.due("the last hood and line", x.mark(63, 8), 863);
        x.toss(99);
        s.due("the coin of now", x.mark(0, 0), 99);
    }

    private static void reckoning(Sentences s) {
        s.of("I", "All from the left on;");
        mark(s, "9-5-3", 1);
        mark(s, "9-5+3", 7);
        mark(s, "64/8/2", 4);
        mark(s, "64/8*2", 16);
        mark(s, "7*3/2", 10);
        s.of("I", "/ gives the greatest whole number not above,");
        mark(s, "7/2", 3);
        mark(s, "(0-7)/2", 996);
        mark(s, "7/(0-2)", 996);
        mark(s, "(0-7)/(0-2)", 3);
        mark(s, "(0-8)/2", 996);
        mark(s, "(0-1)/9999", 999);
        mark(s, "1/9999", 0);
        s.of("I", "by 0 it gives 0;");
        mark(s, "7/0", 0);
        mark(s, "0/0", 0);
        mark(s, "(0-7)/0", 0);
        mark(s, "5+7/(3-3)", 5);
        gift(s, "7+hood/hood", 7);
    }

    private static void limits(Sentences s) {
        s.of("I", "each sum, difference, product above 10 to the 6 is that,");
        mark(s, "999*1001", 999);
        mark(s, "999*1001+1-1", 999);
        mark(s, "999*1001+2", 0);
        mark(s, "999*1001+2-1", 999);
        mark(s, "999*1001-(0-2)", 0);
        mark(s, "999*1001-(0-2)-1", 999);
        mark(s, "1001*1001", 0);
        mark(s, "2000*1000/2001", 499);
        mark(s, "(0-9999)*(0-9999)-1", 999);
        mark(s, "9999*9999*9999*9999-3", 997);
        s.of("I", "below -10 to the 6 likewise.");
        mark(s, "0-999*1001", 1);
        mark(s, "0-999*1001-1", 0);
        mark(s, "0-999*1001-2", 0);
        mark(s, "0-999*1001-2+1", 1);
        mark(s, "0-999*1001+(0-2)", 0);
        mark(s, "0-999*1001+(0-2)+1", 1);
        mark(s, "(0-1001)*1001", 0);
        mark(s, "1001*(0-1001)+7", 7);
        mark(s, "(0-2000)*1000/2001", 500);
        s.of("I", "Without mix it is hood*619+line*211+coin*97.");
        HoodBook x = Check.opened(B + "coin 99;");
        int[] ends = {0, 1, 63};
        for (int hood : ends) {
            s.due("line 0", x.mark(hood, 0), (hood * 619 + 99 * 97) % 1000);
            s.due("line 8", x.mark(hood, 8), (hood * 619 + 8 * 211 + 99 * 97) % 1000);
        }
        x.toss(0);
        s.due("nothing of all", x.mark(0, 0), 0);
        Check.open(x, B + "mix 5;");
        Check.open(x, B);
        s.due("without mix again", x.mark(1, 1), 830);
        s.due("with rows of hoods", Check.opened(B + H + H).mark(1, 1), 830);
    }

    private static void words(Sentences s) {
        s.of("I", "OWN WORDS: book, lines, rows, hoods, from, step, gives, gate, mix, coin, hood, turn, line, times, told, "
            + "gifts, mark, at, or, and, not, all, min, max.");
        s.opens(FULL, 4);
        HoodBook x = Check.opened(B);
        s.due("ask '" + ASKED + "'", Check.ask(x, ASKED), -1);
        for (Token t : tokens(FULL)) {
            if (t.isWord()) {
                s.refuses(with(FULL, t, t.text + "x"), 1, t.place);
                s.refuses(with(FULL, t, "x" + t.text), 1, t.place);
                s.refuses(with(FULL, t, t.text.substring(0, t.text.length() - 1)), 1,
                    t.place);
                s.refuses(with(FULL, t, t.text.toUpperCase()), 1, t.place);
            }
        }
        for (Token t : tokens(ASKED)) {
            if (t.isWord()) {
                String text = with(ASKED, t, t.text + "x");
                s.due("ask '" + text + "'", Check.ask(x, text), HoodBook.NOTHING);
                s.dueFault(text, x, 1, t.place);
            }
        }
    }

    private static void blanks(Sentences s) {
        s.of("I", "Blanks (10, 32) are where one likes");
        for (String blank : new String[] {" ", "\n", " \n\n  "}) {
            StringBuilder text = new StringBuilder(blank);
            for (Token t : tokens(FULL)) {
                text.append(t.text).append(blank);
            }
            s.opens(text.toString(), 4);
            s.due("mark", Check.opened(text.toString()).mark(5, 7), Check.opened(FULL).mark(5, 7));
        }
        for (int b = 0; b < 256; b++) {
            if (b != 10 && b != 32) {
                String text = "book" + (char) b + "lines 1 rows 1;";
                s.refuses(text, 1, b >= 'a' && b <= 'z' ? 0 : 4);
                s.refuses(B + (char) b, 1, 20);
            }
        }
        s.of("I", "(words and numbers side by side need one).");
        List<Token> tokens = tokens(FULL);
        for (int k = 1; k < tokens.size(); k++) {
            Token a = tokens.get(k - 1);
            Token b = tokens.get(k);
            if (a.needsBlank() && b.needsBlank()) {
                String text = FULL.substring(0, a.end()) + FULL.substring(b.place);
                s.refuses(text, 1, a.isWord() && b.isWord() ? a.place : a.end());
            } else {
                s.opens(FULL.substring(0, a.end()) + FULL.substring(b.place), 4);
            }
        }
        s.refuses(B + "mix hood1;", 1, 28);
        s.refuses(B + "mix 1hood;", 1, 25);
        s.refuses(B + "mix min1;", 1, 27);
    }

    private static void faultOne(Sentences s) {
        s.of("I", "FAULTS, the first along the text:");
        s.refuses("book lines 0 rows 4;", 2, 11);
        s.refuses(B + "coin 100;mix (((((((1;", 2, 25);
        s.refuses(B + "mix (((((((1;coin 100;", 4, 30);
        s.refuses(B + "mix 1;mix 2;coin 100;", 5, 26);
        s.refuses(B + "mix 1;coin 100;mix 2;", 2, 31);
        s.refuses(B + "mix turn;mix (((((((1;", 1, 24);
        s.of("I", "1 the first byte with which no such text goes on");
        for (Token t : tokens(FULL)) {
            s.refuses(FULL.substring(0, t.place) + "?" + FULL.substring(t.place), 1, t.place);
            s.refuses(with(FULL, t, "]"), 1, t.place);
            if (t.needsBlank()) {
                s.refuses(FULL.substring(0, t.place) + ";", 1, t.place);
            }
        }
        s.refuses(FULL + "?", 1, FULL.length());
        s.of("I", "(words and numbers whole, at their first byte;");
        s.refuses("boo", 1, 0);
        s.refuses("book lin", 1, 5);
        s.refuses("bookbookbookbookbook lines 1 rows 1;", 1, 0);
        s.refuses(B + "mixed 1;", 1, 20);
        s.refuses("12345", 1, 0);
        s.refuses("book 12345 lines 1 rows 1;", 1, 5);
        s.refuses(B + "12345;", 1, 20);
        s.refuses(B + "mix 1 23456;", 1, 26);
        s.of("I", "where a number is asked, a 5th digit at itself;");
        for (Token t : tokens(FULL)) {
            if (t.isNumber()) {
                String four = "0".repeat(4 - t.text.length()) + t.text;
                s.opens(with(FULL, t, four), 4);
                s.refuses(with(FULL, t, "0" + four), 1, t.place + 4);
                s.refuses(with(FULL, t, "9".repeat(30)), 1, t.place + 4);
            }
        }
        s.of("I", "at the text's length, if it ends too soon);");
        for (int n = 1; n < FULL.length(); n++) {
            endsTooSoon(s, n);
        }
        s.refuses("book lines 1 rows 1 \n ", 1, 22);
    }

    private static void endsTooSoon(Sentences s, int n) {
        String text = FULL.substring(0, n);
        List<Token> tokens = tokens(text);
        Token last = tokens.get(tokens.size() - 1);
        boolean cut = last.isWord() && last.end() == n && Character.isLetter(FULL.charAt(n));
        if (last.text.equals(";")) {
            s.opens(text, (int) text.chars().filter(b -> b == ';').count());
        } else {
            s.refuses(text, 1, cut ? last.place : n);
        }
    }

    private static void otherFaults(Sentences s) {
        s.of("I", "2 a number that can't be, at it;");
        s.refuses("book lines 0000 rows 1;", 2, 11);
        s.refuses("book lines \n 9999 rows 1;", 2, 13);
        s.refuses("book lines 10?", 2, 11);
        s.refuses("book lines 10", 2, 11);
        s.refuses(B + "hoods 1 from 9999", 2, 33);
        s.refuses(B + "coin 0100;", 2, 25);
        s.of("I", "4 the 7th ( that is open at once, at it;");
        mark(s, "((((((5))))))", 5);
        s.refuses(B + "mix (((((((5)))))));", 4, 30);
        s.refuses(B + "mix ( ( ( ( ( ( \n(", 4, 37);
        mark(s, "(1)+(1)+(1)+(1)+(1)+(1)+((((((1))))))", 7);
        mark(s, "min(((((1)))),max(((((2)))),3))", 1);
        s.refuses(B + "mix min((((((1", 1, 34);
        s.refuses(B + "mix min(((((((1", 4, 33);
        s.refuses(B + "mix max(1,((((((1", 4, 35);
        s.refuses(B + "mix ((((((min(1,2", 4, 33);
        gift(s, "((((((5))))))", 5);
        s.refuses(B + "hoods 1 from 2 step 3 gives (((((((", 4, 54);
        s.refuses(B + "hoods 1 from 2 step 3 gives ((((((1)))))) gate 0;mix (((((((", 4, 79);
        s.of("I", "5 one too many of a kind (a 21st hoods, a second mix),");
        int full = 20 + 20 * 37;
        s.opens(B + H.repeat(20) + "mix 1;coin 1;", 23);
        s.refuses(B + H.repeat(20) + "hoods", 5, full);
        s.refuses(B + H.repeat(20) + " \nhoods 0", 5, full + 2);
        s.refuses(B + H.repeat(20) + "hoodsx", 1, full);
        s.refuses(B + "mix 1;mix", 5, 26);
        s.refuses(B + "mix 1;coin 2; mix?", 5, 34);
        s.refuses(B + "mix 1;mixx", 1, 26);
        s.of("I", "a 41st STATEMENT (whatever stands there), at its first byte.");
        String forty = B + "coin 1;".repeat(39);
        s.opens(forty + " \n ", 40);
        for (String any : new String[] {"coin 1;", "book", "hoods", "mix", "x", "?", ";", "(", "12345", "\0"}) {
            s.refuses(forty + any, 5, 293);
            s.refuses(forty + "\n " + any, 5, 295);
        }
    }

    private static void newObject(Sentences s) {
        s.of("1", "No night, no books.");
        HoodBook x = new HoodBook();
        for (int what = 0; what < 8; what++) {
            s.due("has", x.has(what), 0);
        }
        for (int book = 0; book < 3; book++) {
            s.due("crossed", x.crossed(book, 0, 0), -1);
            s.due("bit", x.bit(book, 0), -1);
            s.due("bin", x.bin(book, 0), -1);
            s.due("says", x.says(book, 0), -1);
            s.due("truth", x.truth(book, 0), -1);
        }
        for (int what = 0; what < 6; what++) {
            s.due("status", x.status(what), 0);
        }
        s.due("the tape is empty", x.end(1), false);
        s.of("constants", "`NONE = -1`: There is none; it is refused.");
        s.due("NONE", HoodBook.NONE, -1);
        s.of("constants", "`NOTHING = -1000000000000000L`: Told where a number below 0 may be one.");
        s.due("NOTHING", HoodBook.NOTHING, -1_000_000_000_000_000L);
    }

    private static void feed(Sentences s) {
        s.of("2", "Twenty bytes come behind those on the tape, of each number the highest first: how many there are;");
        HoodBook x = new HoodBook();
        s.due("feed", x.feed(0x626f6f6b, 0x206c696e, 0x65732031, 0x20726f77, 0x7320313b), 20);
        s.due("open", x.open(), 1);
        s.due("feed", x.feed(0x626f6f6b, 0x206c696e, 0x657300ff, -1, MIN), 20);
        s.due("end", x.end(10), true);
        s.due("feed behind ten", x.feed(0x20312072, 0x6f777320, 0x313b636f, 0x696e2037, 0x3b202020), 30);
        s.due("open", x.open(), 2);
        s.due("coin", x.has(4), 7);
        for (int at = 0; at < 20; at++) {
            int[] w = {0x20202020, 0x20202020, 0x20202020, 0x20202020, 0x20202020};
            w[at / 4] += (0xff - 0x20) << 24 - 8 * (at % 4);
            HoodBook y = new HoodBook();
            y.feed(w[0], w[1], w[2], w[3], w[4]);
            y.open();
            s.due("the place of byte " + at, y.fault(1), at);
        }
        s.of("2", "NONE, refused (0), if there would be more than 1600.");
        HoodBook f = new HoodBook();
        for (int k = 1; k <= 80; k++) {
            s.due("feed", f.feed(MAX, MIN, -1, 0, 1), 20 * k);
        }
        s.due("status(0)", f.status(0), 0);
        s.due("feed above 1600", f.feed(0, 0, 0, 0, 0), -1);
        s.due("status(0)", f.status(0), 1);
        s.due("1600 are there", f.end(1600), true);
        f.end(1581);
        s.due("feed above 1600 by one", f.feed(0, 0, 0, 0, 0), -1);
        s.due("nothing has come", f.end(1582), false);
        f.end(1580);
        s.due("feed to 1600", f.feed(0, 0, 0, 0, 0), 1600);
        s.due("status(0)", f.status(0), 3);
    }

    private static void end(Sentences s) {
        s.of("3", "The tape has its first n bytes alone: true;");
        HoodBook x = new HoodBook();
        s.due("end(0) of none", x.end(0), true);
        Check.write(x, B + "coin 100; and more");
        s.due("end(20)", x.end(20), true);
        s.due("end(20) again", x.end(20), true);
        s.due("the rest is gone", x.end(21), false);
        s.due("open", x.open(), 1);
        Check.write(x, B);
        s.due("end(0)", x.end(0), true);
        x.open();
        s.due("nothing is left", x.fault(1), 0);
        s.of("3", "false, refused (0), if it has not so many, or n is below 0.");
        HoodBook y = new HoodBook();
        s.due("end(1)", y.end(1), false);
        s.due("end(-1)", y.end(-1), false);
        Check.write(y, B);
        s.due("status(0)", y.status(0), 2);
        for (int bad : new int[] {21, -1, MIN, MAX}) {
            s.due("end(" + bad + ")", y.end(bad), false);
        }
        s.due("status(0)", y.status(0), 6);
        s.due("the tape stays", y.open(), 1);
    }

    private static void open(Sentences s) {
        s.of("4", "The tape (it goes) is THE NIGHT: how many STATEMENTS;");
        HoodBook x = new HoodBook();
        s.due("open", Check.open(x, B + H + "coin 1;"), 3);
        s.due("the tape is gone", x.end(1), false);
        Check.open(x, "x");
        s.due("the tape is gone with a fault", x.feed(0, 0, 0, 0, 0), 20);
        String longest = B + "mix 1" + "+1".repeat(787) + ";";
        s.due("as long as a tape", longest.length(), 1600);
        for (int k = 0; k < 3; k++) {
            s.due("open", Check.open(x, longest), 2);
            s.due("mark", x.mark(0, 0), 788);
        }
        HoodBook again = new HoodBook();
        for (int k = 1; k <= 4; k++) {
            s.due("a fault at a number", Check.open(again, B + H + "mix hood;coin 100"), -1);
            s.due("open behind it", Check.open(again, B + "mix hood+1;" + H.repeat(k)), 2 + k);
            s.due("rows of hoods", again.has(2), k);
            s.due("mark", again.mark(5, 0), 6);
            s.due("night", again.night(), k);
            s.due("gift", again.passed(0, 1), 4);
        }
    }

    private static void openRefused(Sentences s) {
        s.of("4", "NONE, refused (1), with a FAULT");
        HoodBook y = new HoodBook();
        String[] bad = {"x", "book lines 0", B + "mix (((((((", B + "mix 1;mix 2;"};
        for (int k = 0; k < bad.length; k++) {
            s.due("open", Check.open(y, bad[k]), -1);
            s.due("status(1)", y.status(1), k + 1);
        }
        s.due("no night came", y.mark(0, 0), -1);
        s.of("4", "(all stays;");
        HoodBook x = Check.opened("book lines 4 rows 2;" + H + "coin 7;mix hood+coin;");
        x.night();
        x.pass(9, 50, 1);
        x.toss(8);
        int[] before = Check.octets(x);
        int[] has = {4, 2, 1, 1, 8, 2, 2, 3};
        String[] other = {"", "x", "book lines 9 rows 3;hoods 9 from 9 step 9 gives 99 gate 1;mix 5;coin 100;",
            "book lines 9 rows 3;mix 5;mix 6;", "book lines 9 rows 3;mix (((((((", "book lines 9 rows 3;mix 1+;"};
        for (String text : other) {
            s.due("open", Check.open(x, text), -1);
            s.dueRow("has", x::has, has);
            s.due("mark", x.mark(5, 0), 13);
            s.due("least", x.least(2, 0), 10);
            s.due("lot", x.lot(3), before[12]);
        }
        s.due("its rows of hoods pass", x.night(), 3);
        s.due("as they were", x.passed(2, 1), 4);
        s.due("undo", x.undo(), true);
        s.due("undo the coin", x.undo(), true);
        s.due("mark by the coin told", x.mark(5, 0), 12);
        s.of("4", "one without a STATEMENT has FAULT 1 at its length).");
        s.refuses("", 1, 0);
        s.refuses(" ", 1, 1);
        s.refuses("\n \n", 1, 3);
        s.refuses(" ".repeat(1600), 1, 1600);
    }

    private static void openAnew(Sentences s) {
        s.of("4", "Without one all is as at first,");
        HoodBook x = Check.opened("book lines 4 rows 2;" + H + "coin 7;mix hood+coin;");
        x.night();
        x.pass(9, 50, 1);
        x.toss(8);
        x.least(2, 0);
        for (String text : new String[] {"book lines 4 rows 2;" + H + "coin 7;mix hood+coin;", B}) {
            Check.open(x, text);
            s.due("coin", x.has(4), text.equals(B) ? 0 : 7);
            s.due("passes", x.has(5), 0);
            s.due("unlike", x.has(6), 0);
            s.due("passed", x.passed(0, 0), -1);
            s.due("least", x.least(2, 0), -1);
            s.due("times", x.times(2, 9), 0);
            s.due("bin", x.bin(2, 0), 0);
            s.due("lot", x.lot(0), -1);
            s.due("mark", x.mark(1, 0), text.equals(B) ? 619 : 8);
            x.pass(1, 1, 1);
        }
        HoodBook same = Check.opened("book lines 2 rows 1;mix hood;");
        same.pass(5, 5, 0);
        same.least(2, 0);
        Check.open(same, "book lines 3 rows 2;mix hood+1;");
        s.due("mark by the same coin", same.mark(5, 0), 6);
        s.due("least by the same coin", same.least(2, 0), -1);
        s.due("its lines", same.bin(2, 2), 0);
        s.due("its rows", same.crossed(2, 1, 2), 0);
        same.pass(7, 5, 0);
        s.due("least", same.least(2, 0), 8);
        s.of("4", "nothing can be undone;");
        HoodBook u = Check.opened(B);
        u.pass(1, 1, 1);
        u.toss(5);
        Check.open(u, B);
        s.due("acts", u.has(7), 0);
        s.due("undo", u.undo(), false);
        u.pass(2, 2, 0);
        s.due("acts", u.has(7), 1);
        s.due("undo", u.undo(), true);
        s.due("passes", u.has(5), 0);
        s.due("undo", u.undo(), false);
        s.of("4", "the seed stays.");
        HoodBook a = Check.opened("book lines 9 rows 1;");
        HoodBook b = Check.opened("book lines 9 rows 1;");
        a.pass(1, 0, 0);
        Check.open(a, "book lines 9 rows 1;");
        b.pass(1, 0, 0);
        b.undo();
        HoodBook fresh = Check.opened("book lines 9 rows 1;");
        int unlike = 0;
        for (int n = 0; n < 20; n++) {
            a.pass(n, 0, 0);
            b.pass(n, 0, 0);
            fresh.pass(n, 0, 0);
        }
        for (int line = 0; line < 9; line++) {
            s.due("lot", a.lot(line), b.lot(line));
            unlike += a.lot(line) == fresh.lot(line) ? 0 : 1;
        }
        s.due("other lots than from the first seed", unlike > 0, true);
    }

    private static void fault(Sentences s) {
        s.of("5", "Of the latest open() or ask(): its FAULT (what 0;");
        HoodBook x = Check.opened(B);
        Check.open(x, "book lines 10");
        s.due("of open()", x.fault(0), 2);
        Check.ask(x, "often");
        s.due("of ask()", x.fault(0), 1);
        Check.open(x, B + "mix (((((((");
        s.due("of open() again", x.fault(0), 4);
        x.on();
        x.feed(0, 0, 0, 0, 0);
        x.pass(-1, 0, 0);
        s.due("of no other call", x.fault(0), 4);
        s.of("5", "0 without, and ahead of any),");
        s.due("ahead of any", new HoodBook().fault(0), 0);
        Check.ask(x, "often all");
        s.due("of a good ask()", x.fault(0), 0);
        Check.open(x, "x");
        Check.open(x, B);
        s.due("of a good open()", x.fault(0), 0);
        s.of("5", "its place (1; NONE without).");
        s.due("ahead of any", new HoodBook().fault(1), -1);
        s.due("of a good open()", x.fault(1), -1);
        Check.open(x, "x");
        s.due("the first byte", x.fault(1), 0);
        Check.ask(x, "often");
        s.due("of ask()", x.fault(1), 5);
        Check.ask(x, "often all");
        s.due("of a good ask()", x.fault(1), -1);
        s.of("5", "NONE for another what.");
        Check.open(x, B + "mix 1;mix 2;");
        for (int bad : new int[] {-1, 2, MIN, MAX}) {
            s.due("fault(" + bad + ")", x.fault(bad), -1);
        }
    }
}
