import java.util.ArrayDeque;
import java.util.ArrayList;
import java.util.Arrays;
import java.util.Collections;
import java.util.Deque;
import java.util.List;
import java.util.Set;
import java.util.TreeMap;
import java.util.TreeSet;
import java.util.regex.Matcher;
import java.util.regex.Pattern;
import java.util.stream.Collectors;
import java.util.stream.IntStream;

/** The document said once more, slowly, from the passes anew at each call; for ModelTest alone. */
final class Naive {
    static final class Fault extends RuntimeException {
        private static final long serialVersionUID = 1L;
        final int kind;
        final int place;

        Fault(int kind, int place) {
            this.kind = kind;
            this.place = place;
        }
    }

    record Pass(int hood, int gift, int gate) { }

    record Row(int count, int from, int step, Sum gives, int gate) { }

    record State(List<Pass> passes, int coin, int[] lots) { }

    record Token(String text, int place, boolean glued) { }

    record Found(int which, int out) { }

    static final class Env {
        int hood;
        int turn;
        int line;
        int coin;
    }

    interface Sum {
        int of(Env e);
    }

    interface Test {
        boolean of(Env e);
    }

    interface Marker {
        int of(int hood, int line);
    }

    byte[] tape = new byte[0];
    final int[] refused = new int[6];
    int fault;
    int place = -1;
    boolean night;
    int lines;
    int rows;
    int statements;
    int toldCoin;
    List<Row> hoodRows = new ArrayList<>();
    Sum mix;
    State state = new State(List.of(), 0, new int[0]);
    Deque<State> undo = new ArrayDeque<>();
    long seed = 1;
    int[] image = new int[0];

    // ---- the tape

    int feed(int... words) {
        if (tape.length + 20 > 1600) {
            refused[0]++;
            return -1;
        }
        int at = tape.length;
        tape = Arrays.copyOf(tape, at + 20);
        for (int w : words) {
            tape[at++] = (byte) (w >> 24);
            tape[at++] = (byte) (w >> 16);
            tape[at++] = (byte) (w >> 8);
            tape[at++] = (byte) w;
        }
        return tape.length;
    }

    boolean end(int n) {
        if (n < 0 || n > tape.length) {
            refused[0]++;
            return false;
        }
        tape = Arrays.copyOf(tape, n);
        return true;
    }

    private String takeTape() {
        StringBuilder b = new StringBuilder();
        for (byte x : tape) {
            b.append((char) (x & 255));
        }
        tape = new byte[0];
        return b.toString();
    }

    // ---- reading

    private static final Pattern TOKEN = Pattern.compile("[a-z]+|[0-9]+|[^ \n]");

    private List<Token> tokens;
    private int at;
    private String wording;
    private int length;

    private void scan(String text) {
        tokens = new ArrayList<>();
        length = text.length();
        at = 0;
        Matcher m = TOKEN.matcher(text);
        int end = -1;
        while (m.find()) {
            boolean glued = m.start() == end && isWordy(m.group()) && isWordy(tokens.get(tokens.size() - 1).text);
            tokens.add(new Token(m.group(), m.start(), glued));
            end = m.end();
        }
    }

    private static boolean isWordy(String s) {
        return s.matches("[a-z0-9]+");
    }

    private int here() {
        return at < tokens.size() ? tokens.get(at).place : length;
    }

    private boolean sees(String text) {
        return at < tokens.size() && !tokens.get(at).glued && tokens.get(at).text.equals(text);
    }

    private boolean take(String text) {
        boolean there = sees(text);
        at += there ? 1 : 0;
        return there;
    }

    private void need(String text) {
        if (!take(text)) {
            throw new Fault(1, here());
        }
    }

    private boolean seesNumber() {
        return at < tokens.size() && !tokens.get(at).glued && tokens.get(at).text.matches("[0-9]+");
    }

    private int number(int from, int to) {
        if (!seesNumber()) {
            throw new Fault(1, here());
        }
        String digits = tokens.get(at).text;
        if (digits.length() > 4) {
            throw new Fault(1, here() + 4);
        }
        int value = Integer.parseInt(digits);
        if (value < from || value > to) {
            throw new Fault(2, here());
        }
        at++;
        return value;
    }

    int open() {
        Naive draft = new Naive();
        try {
            draft.readNight(takeTape());
        } catch (Fault f) {
            fault = f.kind;
            place = f.place;
            refused[1]++;
            return -1;
        }
        fault = 0;
        place = -1;
        night = true;
        lines = draft.lines;
        rows = draft.rows;
        toldCoin = draft.toldCoin;
        statements = draft.statements;
        hoodRows = draft.hoodRows;
        mix = draft.mix;
        int[] lots = new int[lines];
        Arrays.fill(lots, -1);
        state = new State(List.of(), toldCoin, lots);
        undo.clear();
        return statements;
    }

    private void readNight(String text) {
        scan(text);
        need("book");
        need("lines");
        lines = number(1, 9);
        need("rows");
        rows = number(1, 3);
        need(";");
        statements = 1;
        while (at < tokens.size()) {
            if (statements == 40) {
                throw new Fault(5, here());
            }
            if (sees("hoods")) {
                if (hoodRows.size() == 20) {
                    throw new Fault(5, here());
                }
                at++;
                readHoods();
            } else if (sees("mix")) {
                if (mix != null) {
                    throw new Fault(5, here());
                }
                at++;
                wording = "mix";
                mix = sum(0);
            } else {
                need("coin");
                toldCoin = number(0, 99);
            }
            need(";");
            statements++;
        }
        if (mix == null) {
            mix = e -> e.hood * 619 + e.line * 211 + e.coin * 97;
        }
    }

    private void readHoods() {
        int count = number(1, 99);
        need("from");
        int from = number(0, 63);
        need("step");
        int step = number(0, 63);
        need("gives");
        wording = "gives";
        Sum gives = sum(0);
        need("gate");
        hoodRows.add(new Row(count, from, step, gives, number(0, 1)));
    }

    private static int cap(long value) {
        return (int) (value > 1_000_000 ? 1_000_000 : value < -1_000_000 ? -1_000_000 : value);
    }

    private Sum sum(int open) {
        Sum left = product(open);
        while (sees("+") || sees("-")) {
            boolean plus = sees("+");
            at++;
            Sum a = left;
            Sum b = product(open);
            left = plus ? e -> cap((long) a.of(e) + b.of(e)) : e -> cap((long) a.of(e) - b.of(e));
        }
        return left;
    }

    private Sum product(int open) {
        Sum left = part(open);
        while (sees("*") || sees("/")) {
            boolean star = sees("*");
            at++;
            Sum a = left;
            Sum b = part(open);
            left = star ? e -> cap((long) a.of(e) * b.of(e)) : e -> quotient(a.of(e), b.of(e));
        }
        return left;
    }

    private static int quotient(int a, int b) {
        return b == 0 ? 0 : (int) Math.floor((double) a / b);
    }

    private void deeper(int open) {
        if (open == 6) {
            throw new Fault(4, here());
        }
    }

    private Sum part(int open) {
        if (seesNumber()) {
            int value = number(0, 9999);
            return e -> value;
        }
        if (sees("(")) {
            deeper(open);
            at++;
            Sum inside = sum(open + 1);
            need(")");
            return inside;
        }
        if (sees("min") || sees("max")) {
            boolean min = sees("min");
            at++;
            if (sees("(")) {
                deeper(open);
            }
            need("(");
            Sum a = sum(open + 1);
            need(",");
            Sum b = sum(open + 1);
            need(")");
            return min ? e -> Math.min(a.of(e), b.of(e)) : e -> Math.max(a.of(e), b.of(e));
        }
        boolean asks = wording.equals("question");
        if (asks && (sees("mark") || sees("at"))) {
            boolean mark = sees("mark");
            deeper(open);
            at++;
            Sum inside = part(open + 1);
            return mark ? e -> markOr0(e.hood, inside.of(e)) : e -> gateTimes(e.hood, inside.of(e));
        }
        if (take("hood")) {
            return e -> e.hood;
        }
        if (wording.equals("gives") && take("turn")) {
            return e -> e.turn;
        }
        if (wording.equals("mix") && take("line")) {
            return e -> e.line;
        }
        if (!wording.equals("gives") && take("coin")) {
            return e -> e.coin;
        }
        if (asks && take("times")) {
            return e -> times(2, e.hood);
        }
        if (asks && take("told")) {
            return e -> told(2, e.hood);
        }
        if (asks && take("gifts")) {
            return e -> state.passes.stream().filter(p -> p.hood == e.hood).mapToInt(Pass::gift).sum();
        }
        throw new Fault(1, here());
    }

    private int markOr0(int hood, int line) {
        return line < 0 || line > 8 ? 0 : mark(hood, line);
    }

    private int gateTimes(int hood, int gate) {
        return gate == 0 || gate == 1 ? times(gate, hood) : 0;
    }

    private Test test(int open) {
        Test left = both(open);
        while (take("or")) {
            Test a = left;
            Test b = both(open);
            left = e -> a.of(e) || b.of(e);
        }
        return left;
    }

    private Test both(int open) {
        Test left = fact(open);
        while (take("and")) {
            Test a = left;
            Test b = fact(open);
            left = e -> a.of(e) && b.of(e);
        }
        return left;
    }

    private Test fact(int open) {
        if (sees("not")) {
            deeper(open);
            at++;
            Test inside = fact(open + 1);
            return e -> !inside.of(e);
        }
        if (sees("[")) {
            deeper(open);
            at++;
            Test inside = test(open + 1);
            need("]");
            return inside;
        }
        if (take("all")) {
            return e -> true;
        }
        Sum a = sum(open);
        String sign = at < tokens.size() ? tokens.get(at).text : "";
        if (!"<>=".contains(sign) || sign.isEmpty()) {
            throw new Fault(1, here());
        }
        at++;
        Sum b = sum(open);
        switch (sign) {
            case "<": return e -> a.of(e) < b.of(e);
            case ">": return e -> a.of(e) > b.of(e);
            default: return e -> a.of(e) == b.of(e);
        }
    }

    long ask() {
        String text = takeTape();
        if (!night) {
            return -1_000_000_000_000_000L;
        }
        fault = 0;
        place = -1;
        try {
            return answer(text);
        } catch (Fault f) {
            fault = f.kind;
            place = f.place;
            return -1_000_000_000_000_000L;
        }
    }

    private long answer(String text) {
        scan(text);
        wording = "question";
        String verb = at < tokens.size() ? tokens.get(at).text : "";
        if (!List.of("first", "last", "often", "total", "most", "least").contains(verb)) {
            throw new Fault(1, here());
        }
        at++;
        boolean tests = List.of("first", "last", "often").contains(verb);
        Test t = tests ? test(0) : null;
        Sum s = tests ? null : sum(0);
        if (at < tokens.size()) {
            throw new Fault(1, here());
        }
        List<Integer> held = new ArrayList<>();
        List<Integer> sums = new ArrayList<>();
        for (int hood : new TreeSet<>(state.passes.stream().map(Pass::hood).toList())) {
            Env e = new Env();
            e.hood = hood;
            e.coin = state.coin;
            if (tests) {
                if (t.of(e)) {
                    held.add(hood);
                }
            } else {
                sums.add(s.of(e));
            }
        }
        switch (verb) {
            case "first": return held.isEmpty() ? -1 : held.get(0);
            case "last": return held.isEmpty() ? -1 : held.get(held.size() - 1);
            case "often": return held.size();
            case "total": return sums.stream().mapToLong(v -> v).sum();
            case "most": return sums.isEmpty() ? 0 : Collections.max(sums);
            default: return sums.isEmpty() ? 0 : Collections.min(sums);
        }
    }

    // ---- marks and books

    int has(int what) {
        switch (what) {
            case 0: return lines;
            case 1: return rows;
            case 2: return hoodRows.size();
            case 3: return hoodRows.stream().mapToInt(Row::count).sum();
            case 4: return state.coin;
            case 5: return state.passes.size();
            case 6: return (int) state.passes.stream().map(Pass::hood).distinct().count();
            case 7: return undo.size();
            default: return -1;
        }
    }

    private Marker marker(int coin) {
        return (hood, line) -> {
            Env e = new Env();
            e.hood = hood;
            e.line = line;
            e.coin = coin;
            int sum = mix.of(e);
            return (sum % 1000 + 1000) % 1000;
        };
    }

    int mark(int hood, int line) {
        boolean there = night && hood >= 0 && hood < 64 && line >= 0 && line < 9;
        return there ? marker(state.coin).of(hood, line) : -1;
    }

    int passed(int k, int what) {
        if (k < 0 || k >= state.passes.size() || what < 0 || what > 2) {
            return -1;
        }
        Pass p = state.passes.get(k);
        return what == 0 ? p.hood : what == 1 ? p.gift : p.gate;
    }

    /** A book made anew of its passes. */
    static final class Book {
        final List<Pass> passes;
        final int l;
        final int r;
        final Marker m;

        Book(List<Pass> passes, int l, int r, Marker m) {
            this.passes = passes;
            this.l = l;
            this.r = r;
            this.m = m;
        }

        List<Integer> least() {
            return passes.stream().map(p -> m.of(p.hood, 0)).distinct().sorted().limit(l).toList();
        }

        int run() {
            return passes.stream().mapToInt(p -> noughts(m.of(p.hood, 1))).max().orElse(-1);
        }

        private static int noughts(int mark) {
            String twos = Integer.toBinaryString(1024 + mark);
            return Math.min(10, twos.length() - 1 - twos.lastIndexOf('1'));
        }

        int[][] often() {
            int[] hood = new int[l];
            int[] number = new int[l];
            for (Pass p : passes) {
                int has = IntStream.range(0, l).filter(k -> number[k] > 0 && hood[k] == p.hood).findFirst().orElse(-1);
                int empty = IntStream.range(0, l).filter(k -> number[k] == 0).findFirst().orElse(-1);
                if (has >= 0) {
                    number[has]++;
                } else if (empty >= 0) {
                    hood[empty] = p.hood;
                    number[empty] = 1;
                } else {
                    for (int k = 0; k < l; k++) {
                        number[k]--;
                    }
                }
            }
            return new int[][] {hood, number};
        }

        int crossed(int row, int k) {
            return (int) passes.stream().filter(p -> m.of(p.hood, 2 + row) % l == k).count();
        }

        Set<Integer> bits() {
            Set<Integer> set = new TreeSet<>();
            for (Pass p : passes) {
                set.add(m.of(p.hood, 5) % (8 * l));
                set.add(m.of(p.hood, 6) % (8 * l));
            }
            return set;
        }

        int bin(int k) {
            return (int) passes.stream().filter(p -> p.gift * l / 100 == k).count();
        }

        List<Integer> signs() {
            return IntStream.range(0, l).mapToObj(
                line -> passes.stream().mapToInt(p -> m.of(p.hood, line)).min().orElse(-1)).toList();
        }

        int unlike() {
            List<Integer> least = least();
            if (least.size() < l) {
                return least.size();
            }
            int last = least.get(l - 1);
            return last == 0 ? 0 : (l - 1) * 1000 / last;
        }

        int runs() {
            return passes.isEmpty() ? 0 : 1 << run();
        }

        int told(int hood) {
            return IntStream.range(0, r).map(row -> crossed(row, m.of(hood, 2 + row) % l)).min().orElse(-1);
        }

        boolean was(int hood) {
            return bits().contains(m.of(hood, 5) % (8 * l)) && bits().contains(m.of(hood, 6) % (8 * l));
        }

        int trueMiddle() {
            return passes.isEmpty() ? -1 : passes.stream().map(Pass::gift).sorted().toList().get(passes.size() / 2);
        }

        int middle() {
            if (passes.isEmpty()) {
                return -1;
            }
            int bin = trueMiddle() * l / 100;
            return IntStream.range(0, 100).filter(g -> g * l / 100 == bin).findFirst().orElse(-1);
        }

        int greatest() {
            int[][] often = often();
            int most = Arrays.stream(often[1]).max().orElse(0);
            for (int k = 0; k < l; k++) {
                if (most > 0 && often[1][k] == most) {
                    return often[0][k];
                }
            }
            return -1;
        }

        int times(int hood) {
            return (int) passes.stream().filter(p -> p.hood == hood).count();
        }

        int unlikeHoods() {
            return (int) passes.stream().map(Pass::hood).distinct().count();
        }

        int oftenest() {
            TreeMap<Integer, Long> by = passes.stream().collect(
                Collectors.groupingBy(Pass::hood, TreeMap::new, Collectors.counting()));
            long most = by.values().stream().mapToLong(v -> v).max().orElse(0);
            return by.keySet().stream().filter(h -> by.get(h) == most).findFirst().orElse(-1);
        }

        int out(int kind) {
            if (passes.isEmpty()) {
                return 0;
            }
            switch (kind) {
                case 0: return Math.abs(unlike() - unlikeHoods());
                case 1: return Math.abs(runs() - unlikeHoods());
                case 2: return IntStream.range(0, 64).map(h -> told(h) - times(h)).max().orElse(0);
                case 3: return (int) IntStream.range(0, 64).filter(h -> times(h) == 0 && was(h)).count();
                case 4: return Math.abs(middle() - trueMiddle());
                default: return oftenMissed();
            }
        }

        private int oftenMissed() {
            int hood = oftenest();
            int[][] often = often();
            int number = 0;
            for (int k = 0; k < l; k++) {
                if (often[0][k] == hood) {
                    number = Math.max(number, often[1][k]);
                }
            }
            return Math.abs(times(hood) - number);
        }
    }

    private Book book(int which) {
        if (!night || which < 0 || which > 2) {
            return null;
        }
        List<Pass> passes = state.passes.stream().filter(p -> which == 2 || p.gate == which).toList();
        return new Book(passes, lines, rows, tabled(state.coin));
    }

    /** The marks by a coin, each reckoned once. */
    private Marker tabled(int coin) {
        Marker m = marker(coin);
        int[][] table = new int[64][9];
        for (int[] row : table) {
            Arrays.fill(row, -1);
        }
        return (hood, line) -> {
            if (table[hood][line] < 0) {
                table[hood][line] = m.of(hood, line);
            }
            return table[hood][line];
        };
    }

    int least(int book, int k) {
        Book b = book(book);
        return b == null || k < 0 || k >= b.least().size() ? -1 : b.least().get(k);
    }

    int run(int book) {
        Book b = book(book);
        return b == null ? -1 : b.run();
    }

    int often(int book, int k, int what) {
        Book b = book(book);
        if (b == null || k < 0 || k >= lines || what < 0 || what > 1 || b.often()[1][k] == 0) {
            return -1;
        }
        return b.often()[what][k];
    }

    int crossed(int book, int row, int k) {
        Book b = book(book);
        return b == null || row < 0 || row >= rows || k < 0 || k >= lines ? -1 : b.crossed(row, k);
    }

    int bit(int book, int k) {
        Book b = book(book);
        return b == null || k < 0 || k >= 8 * lines ? -1 : b.bits().contains(k) ? 1 : 0;
    }

    int bin(int book, int k) {
        Book b = book(book);
        return b == null || k < 0 || k >= lines ? -1 : b.bin(k);
    }

    int sign(int book, int line) {
        Book b = book(book);
        return b == null || line < 0 || line >= lines ? -1 : b.signs().get(line);
    }

    int lot(int line) {
        return line < 0 || line >= state.lots.length ? -1 : state.lots[line];
    }

    int says(int book, int what) {
        Book b = book(book);
        if (b == null) {
            return -1;
        }
        switch (what) {
            case 0: return b.unlike();
            case 1: return b.runs();
            case 2: return b.middle();
            case 3: return b.greatest();
            default: return -1;
        }
    }

    private static boolean hood(int hood) {
        return hood >= 0 && hood < 64;
    }

    int told(int book, int hood) {
        Book b = book(book);
        return b == null || !hood(hood) ? -1 : b.told(hood);
    }

    int was(int book, int hood) {
        Book b = book(book);
        return b == null || !hood(hood) ? -1 : b.was(hood) ? 1 : 0;
    }

    int alike() {
        if (!night) {
            return -1;
        }
        List<Integer> a = book(0).signs();
        List<Integer> b = book(1).signs();
        return (int) IntStream.range(0, lines).filter(k -> a.get(k) >= 0 && a.get(k).equals(b.get(k))).count();
    }

    int truth(int book, int what) {
        Book b = book(book);
        if (b == null) {
            return -1;
        }
        switch (what) {
            case 0: return b.passes.size();
            case 1: return b.unlikeHoods();
            case 2: return b.oftenest();
            case 3: return b.passes.isEmpty() ? -1 : b.times(b.oftenest());
            case 4: return b.trueMiddle();
            default: return -1;
        }
    }

    int times(int book, int hood) {
        Book b = book(book);
        return b == null || !hood(hood) ? -1 : b.times(hood);
    }

    // ---- how far out

    private static boolean kind(int kind) {
        return kind >= 0 && kind <= 5;
    }

    int out(int book, int kind) {
        Book b = book(book);
        return b == null || !kind(kind) ? -1 : b.out(kind);
    }

    int few(int kind, int much) {
        if (!night || !kind(kind) || much < 0 || much > 9999) {
            return -1;
        }
        Marker m = tabled(state.coin);
        return IntStream.rangeClosed(1, 9).filter(l -> new Book(state.passes, l, rows, m).out(kind) <= much)
            .findFirst().orElse(-1);
    }

    int best(int kind, int what) {
        if (!night || !kind(kind) || kind == 4 || what < 0 || what > 1) {
            return -1;
        }
        List<Found> all = IntStream.range(0, 100).mapToObj(
            coin -> new Found(coin, new Book(state.passes, lines, rows, tabled(coin)).out(kind))).toList();
        Found f = Collections.min(all, (a, b) -> Integer.compare(a.out, b.out));
        return what == 0 ? f.which : f.out;
    }

    private List<Pass> with(int hood) {
        List<Pass> more = new ArrayList<>(state.passes);
        more.add(new Pass(hood, 0, 0));
        return more;
    }

    int cross(int kind, int what) {
        if (!night || !kind(kind) || what < 0 || what > 1 || state.passes.size() == 400) {
            return -1;
        }
        Marker m = tabled(state.coin);
        Found best = null;
        for (int hood = 0; hood < 64; hood++) {
            int out = new Book(with(hood), lines, rows, m).out(kind);
            best = best == null || out > best.out ? new Found(hood, out) : best;
        }
        return what == 0 ? best.which : best.out;
    }

    int same(int k) {
        if (!night || state.passes.size() == 400 || k < -1) {
            return -1;
        }
        Marker m = tabled(state.coin);
        Book now = new Book(state.passes, lines, rows, m);
        List<Integer> same = new ArrayList<>();
        for (int hood = 0; hood < 64; hood++) {
            Book then = new Book(with(hood), lines, rows, m);
            if (then.least().equals(now.least()) && then.run() == now.run() && then.bits().equals(now.bits())
                && then.signs().equals(now.signs())) {
                same.add(hood);
            }
        }
        return k == -1 ? same.size() : k < same.size() ? same.get(k) : -1;
    }

    // ---- acts

    private void remember() {
        undo.push(state);
        if (undo.size() > 20) {
            undo.removeLast();
        }
    }

    private void add(int hood, int gift, int gate) {
        List<Pass> more = new ArrayList<>(state.passes);
        more.add(new Pass(hood, gift, gate));
        int[] lots = state.lots.clone();
        for (int k = 0; k < lots.length; k++) {
            seed = (1103515245L * seed + 12345L) % (1L << 31);
            if (seed / 64 % more.size() == 0) {
                lots[k] = hood;
            }
        }
        state = new State(more, state.coin, lots);
    }

    int pass(int hood, int gift, int gate) {
        if (!night || !hood(hood) || gift < 0 || gift > 99 || gate < 0 || gate > 1 || state.passes.size() == 400) {
            refused[2]++;
            return -1;
        }
        remember();
        add(hood, gift, gate);
        return state.passes.size();
    }

    int night() {
        if (!night || has(3) == 0 || has(3) + state.passes.size() > 400) {
            refused[3]++;
            return -1;
        }
        remember();
        for (Row row : hoodRows) {
            int hood = row.from;
            for (int turn = 0; turn < row.count; turn++) {
                Env e = new Env();
                e.hood = hood;
                e.turn = turn;
                add(hood, Math.max(0, Math.min(99, row.gives.of(e))), row.gate);
                hood = (hood + row.step) % 64;
            }
        }
        return state.passes.size();
    }

    boolean toss(int coin) {
        if (!night || coin < 0 || coin > 99 || coin == state.coin) {
            refused[2]++;
            return false;
        }
        remember();
        state = new State(state.passes, coin, state.lots);
        return true;
    }

    boolean undo() {
        if (undo.isEmpty()) {
            refused[4]++;
            return false;
        }
        state = undo.pop();
        return true;
    }

    boolean seed(int value) {
        if (value < 0) {
            refused[5]++;
            return false;
        }
        seed = value;
        return true;
    }

    // ---- images

    int image() {
        List<Integer> bytes = new ArrayList<>();
        bytes.add(state.coin);
        bytes.add(state.passes.size() >> 8);
        bytes.add(state.passes.size() & 255);
        for (Pass p : state.passes) {
            bytes.addAll(List.of(p.hood, p.gift, p.gate));
        }
        for (int lot : state.lots) {
            bytes.add(lot & 255);
        }
        bytes.add(check(bytes));
        image = bytes.stream().mapToInt(v -> v).toArray();
        return image.length;
    }

    static int check(List<Integer> bytes) {
        int c = 211;
        for (int b : bytes) {
            c = (3 * c + b) % 251;
        }
        return c;
    }

    int octet(int k) {
        return k < 0 || k >= image.length ? -1 : image[k];
    }

    boolean on() {
        List<Integer> bytes = takeTape().chars().boxed().collect(Collectors.toList());
        State then = night ? stateOf(bytes) : null;
        if (then == null) {
            refused[5]++;
            return false;
        }
        state = then;
        undo.clear();
        return true;
    }

    private State stateOf(List<Integer> bytes) {
        int n = bytes.size();
        if (n < 4 + lines || bytes.get(n - 1) != check(bytes.subList(0, n - 1)) || bytes.get(0) > 99) {
            return null;
        }
        int count = bytes.get(1) * 256 + bytes.get(2);
        if (count > 400 || n != 4 + 3 * count + lines) {
            return null;
        }
        List<Pass> passes = new ArrayList<>();
        for (int k = 3; k < 3 + 3 * count; k += 3) {
            Pass p = new Pass(bytes.get(k), bytes.get(k + 1), bytes.get(k + 2));
            if (p.hood > 63 || p.gift > 99 || p.gate > 1) {
                return null;
            }
            passes.add(p);
        }
        int[] lots = new int[lines];
        for (int k = 0; k < lines; k++) {
            int lot = bytes.get(3 + 3 * count + k);
            boolean none = count == 0 && lot == 255;
            if (!none && passes.stream().noneMatch(p -> p.hood == lot)) {
                return null;
            }
            lots[k] = none ? -1 : lot;
        }
        return new State(passes, bytes.get(0), lots);
    }

    int status(int what) {
        return what < 0 || what > 5 ? -1 : refused[what];
    }

    int fault(int what) {
        return what == 0 ? fault : what == 1 ? place : -1;
    }
}
