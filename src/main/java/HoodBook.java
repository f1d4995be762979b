import java.util.Arrays;

/** Pilgrims counted hood by hood in three books of few lines, with the truth kept beside them. */
public final class HoodBook {
    public static final int NONE = -1;
    public static final long NOTHING = -1000000000000000L;

    private static final int TAPE_BYTES = 1600;
    private static final int FED_BYTES = 20;
    private static final int HOODS = 64;
    private static final int LINES = 9;
    private static final int ROWS = 3;
    private static final int MARKS = 1000;
    private static final int COINS = 100;
    private static final int GIFTS = 100;
    private static final int GATES = 2;
    private static final int PASSES = 400;
    private static final int ACTS = 20;
    private static final int BITS_A_LINE = 8;
    private static final int NO_LOT = 255;

    private static final int STATEMENTS = 40;
    private static final int HOOD_ROWS = 20;
    private static final int OPEN_AT_ONCE = 6;
    private static final int DIGITS = 4;
    private static final int GREATEST_NUMBER = 9999;
    private static final int GREATEST_SUM = 1000000;

    private static final int NOT_GOING_ON = 1;
    private static final int NO_SUCH_NUMBER = 2;
    private static final int TOO_DEEP = 4;
    private static final int TOO_MANY = 5;

    private static final int TEXT_END = 0;
    private static final int WORD = 1;
    private static final int NUMBER = 2;
    private static final int SIGN = 3;
    private static final int GLUED = 4;

    // A word is a number, each letter behind 32 times what stands ahead of it: reading makes no texts,
    // and no two words of up to five letters have one number.
    private static final int LONGEST_WORD = 5;
    private static final int NO_WORD = 0;
    private static final int W_BOOK = (('b' * 32 + 'o') * 32 + 'o') * 32 + 'k';
    private static final int W_LINES = ((('l' * 32 + 'i') * 32 + 'n') * 32 + 'e') * 32 + 's';
    private static final int W_ROWS = (('r' * 32 + 'o') * 32 + 'w') * 32 + 's';
    private static final int W_HOODS = ((('h' * 32 + 'o') * 32 + 'o') * 32 + 'd') * 32 + 's';
    private static final int W_FROM = (('f' * 32 + 'r') * 32 + 'o') * 32 + 'm';
    private static final int W_STEP = (('s' * 32 + 't') * 32 + 'e') * 32 + 'p';
    private static final int W_GIVES = ((('g' * 32 + 'i') * 32 + 'v') * 32 + 'e') * 32 + 's';
    private static final int W_GATE = (('g' * 32 + 'a') * 32 + 't') * 32 + 'e';
    private static final int W_MIX = ('m' * 32 + 'i') * 32 + 'x';
    private static final int W_COIN = (('c' * 32 + 'o') * 32 + 'i') * 32 + 'n';
    private static final int W_HOOD = (('h' * 32 + 'o') * 32 + 'o') * 32 + 'd';
    private static final int W_TURN = (('t' * 32 + 'u') * 32 + 'r') * 32 + 'n';
    private static final int W_LINE = (('l' * 32 + 'i') * 32 + 'n') * 32 + 'e';
    private static final int W_TIMES = ((('t' * 32 + 'i') * 32 + 'm') * 32 + 'e') * 32 + 's';
    private static final int W_TOLD = (('t' * 32 + 'o') * 32 + 'l') * 32 + 'd';
    private static final int W_GIFTS = ((('g' * 32 + 'i') * 32 + 'f') * 32 + 't') * 32 + 's';
    private static final int W_MARK = (('m' * 32 + 'a') * 32 + 'r') * 32 + 'k';
    private static final int W_AT = 'a' * 32 + 't';
    private static final int W_OR = 'o' * 32 + 'r';
    private static final int W_AND = ('a' * 32 + 'n') * 32 + 'd';
    private static final int W_NOT = ('n' * 32 + 'o') * 32 + 't';
    private static final int W_ALL = ('a' * 32 + 'l') * 32 + 'l';
    private static final int W_MIN = ('m' * 32 + 'i') * 32 + 'n';
    private static final int W_MAX = ('m' * 32 + 'a') * 32 + 'x';
    private static final int W_FIRST = ((('f' * 32 + 'i') * 32 + 'r') * 32 + 's') * 32 + 't';
    private static final int W_LAST = (('l' * 32 + 'a') * 32 + 's') * 32 + 't';
    private static final int W_OFTEN = ((('o' * 32 + 'f') * 32 + 't') * 32 + 'e') * 32 + 'n';
    private static final int W_TOTAL = ((('t' * 32 + 'o') * 32 + 't') * 32 + 'a') * 32 + 'l';
    private static final int W_MOST = (('m' * 32 + 'o') * 32 + 's') * 32 + 't';
    private static final int W_LEAST = ((('l' * 32 + 'e') * 32 + 'a') * 32 + 's') * 32 + 't';

    private static final int GIVES = 0;
    private static final int MIX = 1;
    private static final int QUESTION = 2;

    // A cell of code is a number to put down, or one of these, all below 0.
    private static final int HOOD = -1;
    private static final int TURN = -2;
    private static final int LINE = -3;
    private static final int COIN = -4;
    private static final int TIMES = -5;
    private static final int TOLD = -6;
    private static final int GAVE = -7;
    private static final int MARK_IN = -11;
    private static final int AT_GATE = -12;
    private static final int NOT = -13;
    private static final int ADD = -21;
    private static final int SUBTRACT = -22;
    private static final int MULTIPLY = -23;
    private static final int DIVIDE = -24;
    private static final int LESSER = -25;
    private static final int GREATER = -26;
    private static final int BELOW = -27;
    private static final int ABOVE = -28;
    private static final int EQUAL = -29;
    private static final int AND = -30;
    private static final int OR = -31;

    private static final int ASK_NOTHING = 0;
    private static final int ASK_FIRST = 1;
    private static final int ASK_LAST = 2;
    private static final int ASK_OFTEN = 3;
    private static final int ASK_TOTAL = 4;
    private static final int ASK_MOST = 5;
    private static final int ASK_LEAST = 6;

    private static final int BY_UNLIKE = 0;
    private static final int BY_RUNS = 1;
    private static final int BY_TOLD = 2;
    private static final int BY_WAS = 3;
    private static final int BY_MIDDLE = 4;
    private static final int BY_OFTEN = 5;

    private static final int REFUSED_TAPE = 0;
    private static final int REFUSED_OPEN = 1;
    private static final int REFUSED_PASS = 2;
    private static final int REFUSED_NIGHT = 3;
    private static final int REFUSED_UNDO = 4;
    private static final int REFUSED_SEED = 5;
    private static final int REFUSALS = 6;

    private final Tape tape;
    private final Grammar grammar;
    private final Code question;
    private final Scene scene;
    private final Roll roll;
    private final Ledger ledger;
    private final Image picture;
    private final int[] refused;
    private Night tonight;
    private Night draft;
    private boolean opened;
    private int latestFault;
    private int latestPlace;

    public HoodBook() {
        tape = new Tape();
        question = new Code();
        grammar = new Grammar(new Reader(tape), question);
        Marks marks = new Marks();
        scene = new Scene(marks);
        roll = new Roll();
        ledger = new Ledger(scene, marks);
        picture = new Image();
        refused = new int[REFUSALS];
        tonight = new Night();
        draft = new Night();
        opened = false;
        latestFault = 0;
        latestPlace = NONE;
    }

    public int feed(int a, int b, int c, int d, int e) {
        if (tape.size + FED_BYTES > TAPE_BYTES) {
            return refuse(REFUSED_TAPE);
        }
        tape.put(a);
        tape.put(b);
        tape.put(c);
        tape.put(d);
        tape.put(e);
        return tape.size;
    }

    public boolean end(int n) {
        if (n < 0 || n > tape.size) {
            refuse(REFUSED_TAPE);
            return false;
        }
        tape.size = n;
        return true;
    }

    public int open() {
        boolean good = grammar.readNight(draft);
        tape.size = 0;
        keepFault();
        if (!good) {
            return refuse(REFUSED_OPEN);
        }
        Night spare = tonight;
        tonight = draft;
        draft = spare;
        opened = true;
        roll.restart(tonight.coin);
        ledger.forget();
        return tonight.statements;
    }

    public int fault(int what) {
        switch (what) {
            case 0: return latestFault;
            case 1: return latestPlace;
            default: return NONE;
        }
    }

    public int has(int what) {
        switch (what) {
            case 0: return tonight.lines;
            case 1: return tonight.rows;
            case 2: return tonight.hoodRows;
            case 3: return tonight.passesToCome();
            case 4: return roll.coin;
            case 5: return roll.count;
            case 6: return unlikePassed();
            case 7: return roll.acts;
            default: return NONE;
        }
    }

    public int mark(int hood, int line) {
        if (!opened) {
            return NONE;
        }
        ledger.bringUp(tonight, roll);
        return isHood(hood) && isLine(line) ? ledger.marks.of(hood, line) : NONE;
    }

    public int passed(int k, int what) {
        if (k < 0 || k >= roll.count) {
            return NONE;
        }
        switch (what) {
            case 0: return roll.hoods[k];
            case 1: return roll.gifts[k];
            case 2: return roll.gates[k];
            default: return NONE;
        }
    }

    // ---- books (0, 1, 2)

    public int least(int book, int k) {
        Book b = bookNow(book);
        return b == null || k < 0 || k >= b.leastCount ? NONE : b.leastMarks[k];
    }

    public int run(int book) {
        Book b = bookNow(book);
        return b == null ? NONE : b.longestRun;
    }

    public int often(int book, int k, int what) {
        Book b = bookNow(book);
        if (b == null || k < 0 || k >= b.lines || b.oftenNumbers[k] == 0) {
            return NONE;
        }
        switch (what) {
            case 0: return b.oftenHoods[k];
            case 1: return b.oftenNumbers[k];
            default: return NONE;
        }
    }

    public int crossed(int book, int row, int k) {
        Book b = bookNow(book);
        if (b == null || row < 0 || row >= b.rows || k < 0 || k >= b.lines) {
            return NONE;
        }
        return b.crossings[row * LINES + k];
    }

    public int bit(int book, int k) {
        Book b = bookNow(book);
        return b == null || k < 0 || k >= BITS_A_LINE * b.lines ? NONE : b.bits[k];
    }

    public int bin(int book, int k) {
        Book b = bookNow(book);
        return b == null || k < 0 || k >= b.lines ? NONE : b.bins[k];
    }

    public int sign(int book, int line) {
        Book b = bookNow(book);
        return b == null || b.passes == 0 || line < 0 || line >= b.lines ? NONE : b.signs[line];
    }

    public int lot(int line) {
        return line < 0 || line >= tonight.lines || roll.count == 0 ? NONE : roll.lots[line];
    }

    // ---- what they say, the truth

    public int says(int book, int what) {
        Book b = bookNow(book);
        if (b == null) {
            return NONE;
        }
        switch (what) {
            case 0: return b.unlikeSaid();
            case 1: return b.runsSaid();
            case 2: return b.middleSaid();
            case 3: return b.oftenestSaid();
            default: return NONE;
        }
    }

    public int told(int book, int hood) {
        Book b = bookNow(book);
        return b == null || !isHood(hood) ? NONE : b.toldOf(hood);
    }

    public int was(int book, int hood) {
        Book b = bookNow(book);
        if (b == null || !isHood(hood)) {
            return NONE;
        }
        return b.seemsThere(hood) ? 1 : 0;
    }

    public int alike() {
        if (!opened) {
            return NONE;
        }
        ledger.bringUp(tonight, roll);
        return ledger.linesAlike();
    }

    public int truth(int book, int what) {
        Book b = bookNow(book);
        if (b == null) {
            return NONE;
        }
        int oftenest = b.oftenestHood();
        switch (what) {
            case 0: return b.passes;
            case 1: return b.unlikeHoods;
            case 2: return oftenest;
            case 3: return isHood(oftenest) ? b.hoodTimes[oftenest] : NONE;
            case 4: return b.middleGift();
            default: return NONE;
        }
    }

    public int times(int book, int hood) {
        Book b = bookNow(book);
        return b == null || !isHood(hood) ? NONE : b.hoodTimes[hood];
    }

    // ---- how far out

    public int out(int book, int kind) {
        Book b = bookNow(book);
        return b == null || !isKind(kind) ? NONE : b.outBy(kind);
    }

    public int few(int kind, int much) {
        if (!opened || !isKind(kind) || much < 0 || much > GREATEST_NUMBER) {
            return NONE;
        }
        ledger.bringUp(tonight, roll);
        return ledger.fewestLines(roll, kind, much);
    }

    public int best(int kind, int what) {
        if (!opened || !isKind(kind) || kind == BY_MIDDLE || !isWhichOrHowFar(what)) {
            return NONE;
        }
        ledger.bringUp(tonight, roll);
        ledger.findBestCoin(tonight, kind);
        return what == 0 ? ledger.found : ledger.foundOut;
    }

    public int cross(int kind, int what) {
        if (!opened || !isKind(kind) || !isWhichOrHowFar(what) || roll.count >= PASSES) {
            return NONE;
        }
        ledger.bringUp(tonight, roll);
        ledger.findCrossHood(kind);
        return what == 0 ? ledger.found : ledger.foundOut;
    }

    public int same(int k) {
        if (!opened || roll.count >= PASSES || k < NONE) {
            return NONE;
        }
        ledger.bringUp(tonight, roll);
        return k == NONE ? ledger.countTraceless() : ledger.tracelessHood(k);
    }

    // ---- acts

    public int pass(int hood, int gift, int gate) {
        boolean can = isHood(hood) && gift >= 0 && gift < GIFTS && gate >= 0 && gate < GATES;
        if (!opened || !can || roll.count >= PASSES) {
            return refuse(REFUSED_PASS);
        }
        roll.remember();
        roll.admit(hood, gift, gate, tonight.lines);
        return roll.count;
    }

    public int night() {
        int coming = tonight.passesToCome();
        if (!opened || coming == 0 || roll.count + coming > PASSES) {
            return refuse(REFUSED_NIGHT);
        }
        roll.remember();
        for (int row = 0; row < tonight.hoodRows; row++) {
            admitRow(row);
        }
        return roll.count;
    }

    public boolean toss(int coin) {
        if (!opened || coin < 0 || coin >= COINS || coin == roll.coin) {
            refuse(REFUSED_PASS);
            return false;
        }
        roll.remember();
        roll.coin = coin;
        return true;
    }

    public boolean undo() {
        if (roll.acts == 0) {
            refuse(REFUSED_UNDO);
            return false;
        }
        roll.takeBack();
        ledger.startAgain();
        return true;
    }

    public boolean seed(int seed) {
        if (seed < 0) {
            refuse(REFUSED_SEED);
            return false;
        }
        roll.drawn = seed;
        return true;
    }

    // ---- questions

    public long ask() {
        if (!opened) {
            tape.size = 0;
            return NOTHING;
        }
        int asked = grammar.readQuestion(question);
        tape.size = 0;
        keepFault();
        if (asked == ASK_NOTHING) {
            return NOTHING;
        }
        ledger.bringUp(tonight, roll);
        return answer(asked);
    }

    // ---- images, refusals

    public int image() {
        picture.write(roll, tonight.lines);
        return picture.size;
    }

    public int octet(int k) {
        return k < 0 || k >= picture.size ? NONE : picture.bytes[k];
    }

    public boolean on() {
        boolean good = opened && Image.isOn(tape, tonight.lines);
        if (good) {
            roll.load(tape, tonight.lines);
            ledger.startAgain();
        } else {
            refuse(REFUSED_SEED);
        }
        tape.size = 0;
        return good;
    }

    public int status(int what) {
        return what < 0 || what >= REFUSALS ? NONE : refused[what];
    }

    private int refuse(int which) {
        refused[which]++;
        return NONE;
    }

    private void keepFault() {
        latestFault = grammar.reader.fault;
        latestPlace = grammar.reader.faultPlace;
    }

    private Book bookNow(int book) {
        if (!opened) {
            return null;
        }
        ledger.bringUp(tonight, roll);
        return ledger.bookOf(book);
    }

    private int unlikePassed() {
        if (!opened) {
            return 0;
        }
        ledger.bringUp(tonight, roll);
        return ledger.all.unlikeHoods;
    }

    private void admitRow(int row) {
        for (int turn = 0; turn < tonight.counts[row]; turn++) {
            scene.hood = (tonight.froms[row] + turn * tonight.steps[row]) % HOODS;
            scene.turn = turn;
            int sum = scene.reckon(tonight.code, tonight.givesFrom[row], tonight.givesTo[row]);
            int gift = Math.max(0, Math.min(GIFTS - 1, sum));
            roll.admit(scene.hood, gift, tonight.gates[row], tonight.lines);
        }
    }

    private long answer(int asked) {
        int first = NONE;
        int last = NONE;
        int often = 0;
        long total = 0;
        int most = -GREATEST_SUM;
        int least = GREATEST_SUM;
        for (int hood = 0; hood < HOODS; hood++) {
            if (ledger.all.hoodTimes[hood] > 0) {
                ledger.setScene(hood, roll.coin);
                int value = scene.reckon(question, 0, question.size);
                if (value != 0) {
                    first = first == NONE ? hood : first;
                    last = hood;
                    often++;
                }
                total += value;
                most = Math.max(most, value);
                least = Math.min(least, value);
            }
        }
        switch (asked) {
            case ASK_FIRST: return first;
            case ASK_LAST: return last;
            case ASK_OFTEN: return often;
            case ASK_TOTAL: return total;
            case ASK_MOST: return roll.count == 0 ? 0 : most;
            default: return roll.count == 0 ? 0 : least;
        }
    }

    private static boolean isHood(int hood) {
        return hood >= 0 && hood < HOODS;
    }

    private static boolean isLine(int line) {
        return line >= 0 && line < LINES;
    }

    private static boolean isKind(int kind) {
        return kind >= BY_UNLIKE && kind <= BY_OFTEN;
    }

    private static boolean isWhichOrHowFar(int what) {
        return what == 0 || what == 1;
    }

    /** The bytes that were fed and not yet taken. */
    private static final class Tape {
        final byte[] bytes;
        int size;

        Tape() {
            bytes = new byte[TAPE_BYTES];
            size = 0;
        }

        void put(int number) {
            for (int shift = 24; shift >= 0; shift -= 8) {
                if (size < bytes.length) {
                    bytes[size] = (byte) (number >>> shift);
                    size++;
                }
            }
        }

        int at(int k) {
            return k >= 0 && k < size ? bytes[k] & 255 : NONE;
        }
    }

    /** Goes along the tape by words, numbers and signs, and keeps the first fault. */
    private static final class Reader {
        final Tape tape;
        int kind;
        int word;
        int value;
        int place;
        int next;
        int fault;
        int faultPlace;

        Reader(Tape tape) {
            this.tape = tape;
            faultPlace = NONE;
        }

        void start() {
            kind = SIGN;
            next = 0;
            fault = 0;
            faultPlace = NONE;
            step();
        }

        void step() {
            int before = kind;
            int end = next;
            place = end;
            while (place < tape.size && isBlank(tape.at(place))) {
                place++;
            }
            kind = kindOf(tape.at(place));
            boolean isLong = kind == WORD || kind == NUMBER;
            next = place;
            word = 0;
            value = 0;
            while (next < tape.size && (next == place || isLong && kindOf(tape.at(next)) == kind)) {
                word = word * 32 + tape.at(next);
                value = value * 10 + (tape.at(next) - '0');
                next++;
            }
            // A word and a number without a blank between: nothing may go on with the second.
            if (place == end && isLong && before != kind && (before == WORD || before == NUMBER)) {
                kind = GLUED;
            }
            if (kind != WORD || next - place > LONGEST_WORD) {
                word = NO_WORD;
            }
        }

        boolean isSign(char sign) {
            return kind == SIGN && tape.at(place) == sign;
        }

        boolean takeWord(int asked) {
            if (word != asked) {
                return stop(NOT_GOING_ON, place);
            }
            step();
            return true;
        }

        boolean takeSign(char sign) {
            if (!isSign(sign)) {
                return stop(NOT_GOING_ON, place);
            }
            step();
            return true;
        }

        /** The number that stands here, if it is from .. to; else NONE, with a fault. */
        int takeNumber(int from, int to) {
            if (kind != NUMBER) {
                stop(NOT_GOING_ON, place);
                return NONE;
            }
            if (next - place > DIGITS) {
                stop(NOT_GOING_ON, place + DIGITS);
                return NONE;
            }
            int taken = value;
            if (taken < from || taken > to) {
                stop(NO_SUCH_NUMBER, place);
                return NONE;
            }
            step();
            return taken;
        }

        boolean stop(int which, int where) {
            if (fault == 0) {
                fault = which;
                faultPlace = where;
            }
            return false;
        }

        private static boolean isBlank(int c) {
            return c == 10 || c == 32;
        }

        private static int kindOf(int c) {
            if (c == NONE) {
                return TEXT_END;
            }
            if (c >= 'a' && c <= 'z') {
                return WORD;
            }
            return c >= '0' && c <= '9' ? NUMBER : SIGN;
        }
    }

    /** Sums and tests, each part ahead of what is done with it. */
    private static final class Code {
        final int[] cells;
        int size;

        Code() {
            // Each cell has a byte of the text at least.
            cells = new int[TAPE_BYTES];
            size = 0;
        }

        void put(int cell) {
            if (size < cells.length) {
                cells[size] = cell;
                size++;
            }
        }
    }

    /** What a night's text tells. */
    private static final class Night {
        int statements;
        int lines;
        int rows;
        int coin;
        int hoodRows;
        final int[] counts;
        final int[] froms;
        final int[] steps;
        final int[] gates;
        final int[] givesFrom;
        final int[] givesTo;
        final Code code;
        boolean hasMix;
        int mixFrom;
        int mixTo;

        Night() {
            counts = new int[HOOD_ROWS];
            froms = new int[HOOD_ROWS];
            steps = new int[HOOD_ROWS];
            gates = new int[HOOD_ROWS];
            givesFrom = new int[HOOD_ROWS];
            givesTo = new int[HOOD_ROWS];
            code = new Code();
        }

        void clear() {
            statements = 0;
            lines = 0;
            rows = 0;
            coin = 0;
            hoodRows = 0;
            code.size = 0;
            hasMix = false;
            mixFrom = 0;
            mixTo = 0;
        }

        void putPlainMix() {
            mixFrom = code.size;
            code.put(HOOD);
            code.put(619);
            code.put(MULTIPLY);
            code.put(LINE);
            code.put(211);
            code.put(MULTIPLY);
            code.put(ADD);
            code.put(COIN);
            code.put(97);
            code.put(MULTIPLY);
            code.put(ADD);
            mixTo = code.size;
        }

        int passesToCome() {
            int sum = 0;
            for (int row = 0; row < hoodRows; row++) {
                sum += counts[row];
            }
            return sum;
        }
    }

    /** Nights and questions by their rules; 'open' is how many brackets and the like are open. */
    private static final class Grammar {
        final Reader reader;
        private Code code;
        private int wording;

        Grammar(Reader reader, Code code) {
            this.reader = reader;
            this.code = code;
            wording = QUESTION;
        }

        boolean readNight(Night night) {
            night.clear();
            code = night.code;
            reader.start();
            if (!readBook(night)) {
                return false;
            }
            night.statements = 1;
            for (int k = 1; k < STATEMENTS && reader.kind != TEXT_END; k++) {
                if (!readStatement(night)) {
                    return false;
                }
                night.statements++;
            }
            if (reader.kind != TEXT_END) {
                return reader.stop(TOO_MANY, reader.place);
            }
            if (!night.hasMix) {
                night.putPlainMix();
            }
            return true;
        }

        int readQuestion(Code into) {
            code = into;
            into.size = 0;
            wording = QUESTION;
            reader.start();
            int asked = askedHere();
            if (asked == ASK_NOTHING) {
                reader.stop(NOT_GOING_ON, reader.place);
                return ASK_NOTHING;
            }
            reader.step();
            boolean good = asked <= ASK_OFTEN ? readTest(0) : readSum(0);
            if (good && reader.kind != TEXT_END) {
                good = reader.stop(NOT_GOING_ON, reader.place);
            }
            return good ? asked : ASK_NOTHING;
        }

        private boolean readBook(Night night) {
            if (!reader.takeWord(W_BOOK) || !reader.takeWord(W_LINES)) {
                return false;
            }
            night.lines = reader.takeNumber(1, LINES);
            if (night.lines == NONE || !reader.takeWord(W_ROWS)) {
                return false;
            }
            night.rows = reader.takeNumber(1, ROWS);
            return night.rows != NONE && reader.takeSign(';');
        }

        private boolean readStatement(Night night) {
            boolean good;
            if (reader.word == W_HOODS) {
                good = readHoods(night);
            } else if (reader.word == W_MIX) {
                good = readMix(night);
            } else if (reader.word == W_COIN) {
                reader.step();
                night.coin = reader.takeNumber(0, COINS - 1);
                good = night.coin != NONE;
            } else {
                good = reader.stop(NOT_GOING_ON, reader.place);
            }
            return good && reader.takeSign(';');
        }

        private boolean readHoods(Night night) {
            int row = night.hoodRows;
            if (row >= HOOD_ROWS) {
                return reader.stop(TOO_MANY, reader.place);
            }
            reader.step();
            night.counts[row] = reader.takeNumber(1, 99);
            if (night.counts[row] == NONE || !reader.takeWord(W_FROM)) {
                return false;
            }
            night.froms[row] = reader.takeNumber(0, HOODS - 1);
            if (night.froms[row] == NONE || !reader.takeWord(W_STEP)) {
                return false;
            }
            night.steps[row] = reader.takeNumber(0, HOODS - 1);
            if (night.steps[row] == NONE || !reader.takeWord(W_GIVES)) {
                return false;
            }
            wording = GIVES;
            night.givesFrom[row] = code.size;
            if (!readSum(0) || !reader.takeWord(W_GATE)) {
                return false;
            }
            night.givesTo[row] = code.size;
            night.gates[row] = reader.takeNumber(0, GATES - 1);
            night.hoodRows++;
            return night.gates[row] != NONE;
        }

        private boolean readMix(Night night) {
            if (night.hasMix) {
                return reader.stop(TOO_MANY, reader.place);
            }
            reader.step();
            wording = MIX;
            night.hasMix = true;
            night.mixFrom = code.size;
            boolean good = readSum(0);
            night.mixTo = code.size;
            return good;
        }

        private int askedHere() {
            switch (reader.word) {
                case W_FIRST: return ASK_FIRST;
                case W_LAST: return ASK_LAST;
                case W_OFTEN: return ASK_OFTEN;
                case W_TOTAL: return ASK_TOTAL;
                case W_MOST: return ASK_MOST;
                case W_LEAST: return ASK_LEAST;
                default: return ASK_NOTHING;
            }
        }

        private boolean readTest(int open) {
            boolean good = readBoth(open);
            for (int k = 0; k < TAPE_BYTES && good && reader.word == W_OR; k++) {
                reader.step();
                good = readBoth(open);
                code.put(OR);
            }
            return good;
        }

        private boolean readBoth(int open) {
            boolean good = readFact(open);
            for (int k = 0; k < TAPE_BYTES && good && reader.word == W_AND; k++) {
                reader.step();
                good = readFact(open);
                code.put(AND);
            }
            return good;
        }

        private boolean readFact(int open) {
            if (reader.word == W_NOT) {
                boolean good = goIn(open) && readFact(open + 1);
                code.put(NOT);
                return good;
            }
            if (reader.isSign('[')) {
                return goIn(open) && readTest(open + 1) && reader.takeSign(']');
            }
            if (reader.word == W_ALL) {
                reader.step();
                code.put(1);
                return true;
            }
            return readComparison(open);
        }

        private boolean readComparison(int open) {
            if (!readSum(open)) {
                return false;
            }
            int how = reader.isSign('<') ? BELOW : reader.isSign('>') ? ABOVE : EQUAL;
            if (how == EQUAL && !reader.isSign('=')) {
                return reader.stop(NOT_GOING_ON, reader.place);
            }
            reader.step();
            boolean good = readSum(open);
            code.put(how);
            return good;
        }

        private boolean readSum(int open) {
            boolean good = readProduct(open);
            for (int k = 0; k < TAPE_BYTES && good; k++) {
                boolean plus = reader.isSign('+');
                if (!plus && !reader.isSign('-')) {
                    return true;
                }
                reader.step();
                good = readProduct(open);
                code.put(plus ? ADD : SUBTRACT);
            }
            return good;
        }

        private boolean readProduct(int open) {
            boolean good = readPart(open);
            for (int k = 0; k < TAPE_BYTES && good; k++) {
                boolean star = reader.isSign('*');
                if (!star && !reader.isSign('/')) {
                    return true;
                }
                reader.step();
                good = readPart(open);
                code.put(star ? MULTIPLY : DIVIDE);
            }
            return good;
        }

        private boolean readPart(int open) {
            if (reader.kind == NUMBER) {
                int value = reader.takeNumber(0, GREATEST_NUMBER);
                code.put(value);
                return value != NONE;
            }
            if (reader.isSign('(')) {
                return goIn(open) && readSum(open + 1) && reader.takeSign(')');
            }
            if (reader.word == W_MIN) {
                return readPair(open, LESSER);
            }
            if (reader.word == W_MAX) {
                return readPair(open, GREATER);
            }
            if (wording == QUESTION && reader.word == W_MARK) {
                return readLookup(open, MARK_IN);
            }
            if (wording == QUESTION && reader.word == W_AT) {
                return readLookup(open, AT_GATE);
            }
            int name = nameHere();
            if (name == 0) {
                return reader.stop(NOT_GOING_ON, reader.place);
            }
            code.put(name);
            reader.step();
            return true;
        }

        private boolean readPair(int open, int how) {
            reader.step();
            if (!reader.isSign('(')) {
                return reader.stop(NOT_GOING_ON, reader.place);
            }
            boolean good = goIn(open) && readSum(open + 1) && reader.takeSign(',')
                    && readSum(open + 1) && reader.takeSign(')');
            code.put(how);
            return good;
        }

        private boolean readLookup(int open, int how) {
            boolean good = goIn(open) && readPart(open + 1);
            code.put(how);
            return good;
        }

        /** The cell of the name that stands here, 0 where this wording has none such. */
        private int nameHere() {
            switch (reader.word) {
                case W_HOOD: return HOOD;
                case W_TURN: return wording == GIVES ? TURN : 0;
                case W_LINE: return wording == MIX ? LINE : 0;
                case W_COIN: return wording != GIVES ? COIN : 0;
                case W_TIMES: return wording == QUESTION ? TIMES : 0;
                case W_TOLD: return wording == QUESTION ? TOLD : 0;
                case W_GIFTS: return wording == QUESTION ? GAVE : 0;
                default: return 0;
            }
        }

        private boolean goIn(int open) {
            if (open >= OPEN_AT_ONCE) {
                return reader.stop(TOO_DEEP, reader.place);
            }
            reader.step();
            return true;
        }
    }

    /** What the words of a sum stand for now, and the reckoning with them. */
    private static final class Scene {
        int hood;
        int turn;
        int line;
        int coin;
        int times;
        int told;
        int gave;
        int atFirstGate;
        int atSecondGate;
        private final Marks marks;
        // Six left operands may wait at each of seven levels.
        private final int[] stack;

        Scene(Marks marks) {
            this.marks = marks;
            stack = new int[64];
        }

        int reckon(Code code, int from, int to) {
            int top = 0;
            int end = Math.min(to, code.size);
            for (int k = Math.max(0, from); k < end; k++) {
                int cell = code.cells[k];
                if (cell > MARK_IN) {
                    if (top < stack.length) {
                        stack[top] = valueOf(cell);
                        top++;
                    }
                } else if (cell > ADD) {
                    if (top >= 1) {
                        stack[top - 1] = single(cell, stack[top - 1]);
                    }
                } else if (top >= 2) {
                    stack[top - 2] = joined(cell, stack[top - 2], stack[top - 1]);
                    top--;
                }
            }
            return top > 0 ? stack[0] : 0;
        }

        private int valueOf(int cell) {
            switch (cell) {
                case HOOD: return hood;
                case TURN: return turn;
                case LINE: return line;
                case COIN: return coin;
                case TIMES: return times;
                case TOLD: return told;
                case GAVE: return gave;
                default: return cell;
            }
        }

        private int single(int cell, int value) {
            if (cell == NOT) {
                return value == 0 ? 1 : 0;
            }
            if (cell == MARK_IN) {
                return marks.of(hood, value);
            }
            return value == 0 ? atFirstGate : value == 1 ? atSecondGate : 0;
        }

        private static int joined(int cell, int left, int right) {
            switch (cell) {
                case ADD: return capped((long) left + right);
                case SUBTRACT: return capped((long) left - right);
                case MULTIPLY: return capped((long) left * right);
                case DIVIDE: return right == 0 ? 0 : Math.floorDiv(left, right);
                case LESSER: return Math.min(left, right);
                case GREATER: return Math.max(left, right);
                case BELOW: return left < right ? 1 : 0;
                case ABOVE: return left > right ? 1 : 0;
                case EQUAL: return left == right ? 1 : 0;
                case AND: return left != 0 && right != 0 ? 1 : 0;
                default: return left != 0 || right != 0 ? 1 : 0;
            }
        }

        private static int capped(long value) {
            if (value > GREATEST_SUM) {
                return GREATEST_SUM;
            }
            return value < -GREATEST_SUM ? -GREATEST_SUM : (int) value;
        }
    }

    /** The marks of all hoods in all lines by one coin. */
    private static final class Marks {
        private final int[] table;

        Marks() {
            table = new int[HOODS * LINES];
        }

        int of(int hood, int line) {
            boolean there = hood >= 0 && hood < HOODS && line >= 0 && line < LINES;
            return there ? table[hood * LINES + line] : 0;
        }

        void fillLine(Night night, Scene scene, int coin, int line) {
            scene.coin = coin;
            scene.line = line;
            for (int hood = 0; hood < HOODS && isLine(line); hood++) {
                scene.hood = hood;
                int sum = scene.reckon(night.code, night.mixFrom, night.mixTo);
                table[hood * LINES + line] = Math.floorMod(sum, MARKS);
            }
        }
    }

    /** One book in its lines, and the truth of its passes. */
    private static final class Book {
        int lines;
        int rows;
        Marks marks;
        int passes;
        int unlikeHoods;
        final int[] hoodTimes;
        final int[] hoodGave;
        final int[] giftTimes;
        int leastCount;
        final int[] leastMarks;
        int longestRun;
        final int[] oftenHoods;
        final int[] oftenNumbers;
        final int[] crossings;
        final int[] bits;
        final int[] bins;
        final int[] signs;

        Book(Marks marks) {
            lines = 1;
            rows = 1;
            this.marks = marks;
            hoodTimes = new int[HOODS];
            hoodGave = new int[HOODS];
            giftTimes = new int[GIFTS];
            leastMarks = new int[LINES];
            oftenHoods = new int[LINES];
            oftenNumbers = new int[LINES];
            crossings = new int[ROWS * LINES];
            bits = new int[BITS_A_LINE * LINES];
            bins = new int[LINES];
            signs = new int[LINES];
            longestRun = NONE;
        }

        void begin(int lineCount, int rowCount) {
            lines = Math.max(1, Math.min(LINES, lineCount));
            rows = Math.max(1, Math.min(ROWS, rowCount));
            passes = 0;
            unlikeHoods = 0;
            Arrays.fill(hoodTimes, 0);
            Arrays.fill(hoodGave, 0);
            Arrays.fill(giftTimes, 0);
            Arrays.fill(oftenNumbers, 0);
            Arrays.fill(bins, 0);
            wipeMarks();
        }

        void wipeMarks() {
            leastCount = 0;
            longestRun = NONE;
            Arrays.fill(crossings, 0);
            Arrays.fill(bits, 0);
            Arrays.fill(signs, MARKS);
        }

        void copy(Book from) {
            lines = from.lines;
            rows = from.rows;
            passes = from.passes;
            unlikeHoods = from.unlikeHoods;
            leastCount = from.leastCount;
            longestRun = from.longestRun;
            System.arraycopy(from.hoodTimes, 0, hoodTimes, 0, HOODS);
            System.arraycopy(from.hoodGave, 0, hoodGave, 0, HOODS);
            System.arraycopy(from.giftTimes, 0, giftTimes, 0, GIFTS);
            System.arraycopy(from.leastMarks, 0, leastMarks, 0, LINES);
            System.arraycopy(from.oftenHoods, 0, oftenHoods, 0, LINES);
            System.arraycopy(from.oftenNumbers, 0, oftenNumbers, 0, LINES);
            System.arraycopy(from.crossings, 0, crossings, 0, ROWS * LINES);
            System.arraycopy(from.bits, 0, bits, 0, BITS_A_LINE * LINES);
            System.arraycopy(from.bins, 0, bins, 0, LINES);
            System.arraycopy(from.signs, 0, signs, 0, LINES);
        }

        void add(int hood, int gift) {
            if (!isHood(hood) || gift < 0 || gift >= GIFTS) {
                return;
            }
            if (hoodTimes[hood] == 0) {
                unlikeHoods++;
            }
            passes++;
            hoodTimes[hood]++;
            hoodGave[hood] += gift;
            giftTimes[gift]++;
            bins[gift * lines / GIFTS]++;
            addOften(hood);
            for (int kind = BY_UNLIKE; kind <= BY_WAS; kind++) {
                addMarks(hood, 1, kind);
            }
            for (int line = 0; line < lines; line++) {
                signs[line] = Math.min(signs[line], marks.of(hood, line));
            }
        }

        /** What so many passes of the hood do to that by which the book is out by the kind. */
        void addMarks(int hood, int times, int kind) {
            switch (kind) {
                case BY_UNLIKE:
                    addLeast(marks.of(hood, 0));
                    break;
                case BY_RUNS:
                    longestRun = Math.max(longestRun, noughtsAtEnd(marks.of(hood, 1)));
                    break;
                case BY_TOLD:
                    for (int row = 0; row < rows; row++) {
                        crossings[crossing(row, hood)] += times;
                    }
                    break;
                case BY_WAS:
                    bits[bitPlace(hood, 5)] = 1;
                    bits[bitPlace(hood, 6)] = 1;
                    break;
                default:
                    break;
            }
        }

        private void addLeast(int mark) {
            int at = 0;
            while (at < leastCount && leastMarks[at] < mark) {
                at++;
            }
            if (at >= lines || at < leastCount && leastMarks[at] == mark) {
                return;
            }
            leastCount = Math.min(lines, leastCount + 1);
            for (int k = leastCount - 1; k > at; k--) {
                leastMarks[k] = leastMarks[k - 1];
            }
            leastMarks[at] = mark;
        }

        private void addOften(int hood) {
            int place = oftenPlace(hood);
            if (place != NONE) {
                oftenNumbers[place]++;
                return;
            }
            for (int k = 0; k < lines; k++) {
                if (oftenNumbers[k] == 0) {
                    oftenHoods[k] = hood;
                    oftenNumbers[k] = 1;
                    return;
                }
            }
            for (int k = 0; k < lines; k++) {
                oftenNumbers[k]--;
            }
        }

        private int oftenPlace(int hood) {
            for (int k = 0; k < lines; k++) {
                if (oftenNumbers[k] > 0 && oftenHoods[k] == hood) {
                    return k;
                }
            }
            return NONE;
        }

        private int crossing(int row, int hood) {
            return row * LINES + marks.of(hood, 2 + row) % lines;
        }

        private int bitPlace(int hood, int line) {
            return marks.of(hood, line) % (BITS_A_LINE * lines);
        }

        private static int noughtsAtEnd(int mark) {
            int noughts = 0;
            while (noughts < 10 && (mark >> noughts & 1) == 0) {
                noughts++;
            }
            return noughts;
        }

        int unlikeSaid() {
            if (leastCount < lines) {
                return leastCount;
            }
            int last = leastMarks[lines - 1];
            return last == 0 ? 0 : (lines - 1) * MARKS / last;
        }

        int runsSaid() {
            return passes == 0 ? 0 : 1 << longestRun;
        }

        int toldOf(int hood) {
            int least = crossings[crossing(0, hood)];
            for (int row = 1; row < rows; row++) {
                least = Math.min(least, crossings[crossing(row, hood)]);
            }
            return least;
        }

        boolean seemsThere(int hood) {
            return bits[bitPlace(hood, 5)] == 1 && bits[bitPlace(hood, 6)] == 1;
        }

        int middleSaid() {
            int ahead = 0;
            for (int k = 0; k < lines; k++) {
                ahead += bins[k];
                if (ahead > passes / 2) {
                    return (k * GIFTS + lines - 1) / lines;
                }
            }
            return NONE;
        }

        int middleGift() {
            int ahead = 0;
            for (int gift = 0; gift < GIFTS; gift++) {
                ahead += giftTimes[gift];
                if (ahead > passes / 2) {
                    return gift;
                }
            }
            return NONE;
        }

        int oftenestSaid() {
            int best = NONE;
            int number = 0;
            for (int k = 0; k < lines; k++) {
                if (oftenNumbers[k] > number) {
                    number = oftenNumbers[k];
                    best = oftenHoods[k];
                }
            }
            return best;
        }

        int oftenestHood() {
            int best = NONE;
            int most = 0;
            for (int hood = 0; hood < HOODS; hood++) {
                if (hoodTimes[hood] > most) {
                    most = hoodTimes[hood];
                    best = hood;
                }
            }
            return best;
        }

        int outBy(int kind) {
            switch (kind) {
                case BY_UNLIKE: return Math.abs(unlikeSaid() - unlikeHoods);
                case BY_RUNS: return Math.abs(runsSaid() - unlikeHoods);
                case BY_TOLD: return mostToldAbove();
                case BY_WAS: return wronglyThere();
                case BY_MIDDLE: return Math.abs(middleSaid() - middleGift());
                default: return oftenestMissed();
            }
        }

        private int mostToldAbove() {
            int most = 0;
            for (int hood = 0; hood < HOODS; hood++) {
                most = Math.max(most, toldOf(hood) - hoodTimes[hood]);
            }
            return most;
        }

        private int wronglyThere() {
            int count = 0;
            for (int hood = 0; hood < HOODS; hood++) {
                if (hoodTimes[hood] == 0 && seemsThere(hood)) {
                    count++;
                }
            }
            return count;
        }

        private int oftenestMissed() {
            int hood = oftenestHood();
            if (hood == NONE) {
                return 0;
            }
            int place = oftenPlace(hood);
            int number = place == NONE ? 0 : oftenNumbers[place];
            return Math.abs(number - hoodTimes[hood]);
        }

        /** Whether a pass of the hood would leave LEAST, RUN, BITS and SIGNS as they are. */
        boolean leavesNoTrace(int hood) {
            if (!seemsThere(hood) || noughtsAtEnd(marks.of(hood, 1)) > longestRun) {
                return false;
            }
            for (int line = 0; line < lines; line++) {
                if (marks.of(hood, line) < signs[line]) {
                    return false;
                }
            }
            return leavesLeast(marks.of(hood, 0));
        }

        private boolean leavesLeast(int mark) {
            for (int k = 0; k < leastCount; k++) {
                if (leastMarks[k] == mark) {
                    return true;
                }
            }
            return leastCount == lines && mark > leastMarks[lines - 1];
        }
    }

    /** The passes in their order, the coin, the lots, and how to undo the latest acts. */
    private static final class Roll {
        final int[] hoods;
        final int[] gifts;
        final int[] gates;
        int count;
        int coin;
        final int[] lots;
        int drawn;
        int acts;
        private int newest;
        private final int[] oldCounts;
        private final int[] oldCoins;
        private final int[] oldLots;

        Roll() {
            hoods = new int[PASSES];
            gifts = new int[PASSES];
            gates = new int[PASSES];
            lots = new int[LINES];
            Arrays.fill(lots, NONE);
            drawn = 1;
            oldCounts = new int[ACTS];
            oldCoins = new int[ACTS];
            oldLots = new int[ACTS * LINES];
        }

        void restart(int toldCoin) {
            count = 0;
            coin = toldCoin;
            acts = 0;
            Arrays.fill(lots, NONE);
        }

        void admit(int hood, int gift, int gate, int lines) {
            if (count >= PASSES) {
                return;
            }
            hoods[count] = hood;
            gifts[count] = gift;
            gates[count] = gate;
            count++;
            for (int line = 0; line < lines && line < LINES; line++) {
                if (draw(count) == 0) {
                    lots[line] = hood;
                }
            }
        }

        private int draw(int most) {
            drawn = (int) (1103515245L * drawn + 12345L & 0x7FFFFFFFL);
            return most <= 0 ? 0 : drawn / 64 % most;
        }

        /** Ahead of an act: what undoing it brings back. Passes only come behind, so their count is enough. */
        void remember() {
            newest = (newest + 1) % ACTS;
            acts = Math.min(ACTS, acts + 1);
            oldCounts[newest] = count;
            oldCoins[newest] = coin;
            System.arraycopy(lots, 0, oldLots, newest * LINES, LINES);
        }

        void takeBack() {
            count = oldCounts[newest];
            coin = oldCoins[newest];
            System.arraycopy(oldLots, newest * LINES, lots, 0, LINES);
            newest = (newest + ACTS - 1) % ACTS;
            acts = Math.max(0, acts - 1);
        }

        /** Takes over an image that has been found good. */
        void load(Tape tape, int lines) {
            restart(tape.at(0));
            count = Image.passesTold(tape);
            int at = 3;
            for (int k = 0; k < count; k++) {
                hoods[k] = tape.at(at);
                gifts[k] = tape.at(at + 1);
                gates[k] = tape.at(at + 2);
                at += 3;
            }
            for (int line = 0; line < lines && line < LINES; line++) {
                int lot = tape.at(at + line);
                lots[line] = lot == NO_LOT ? NONE : lot;
            }
        }
    }

    /** The latest image written, and the look at one that comes by the tape. */
    private static final class Image {
        private static final int FRAME = 4;
        final int[] bytes;
        int size;

        Image() {
            bytes = new int[FRAME + 3 * PASSES + LINES];
            size = 0;
        }

        void write(Roll roll, int lines) {
            size = 0;
            put(roll.coin);
            put(roll.count / 256);
            put(roll.count % 256);
            for (int k = 0; k < roll.count; k++) {
                put(roll.hoods[k]);
                put(roll.gifts[k]);
                put(roll.gates[k]);
            }
            for (int line = 0; line < lines && line < LINES; line++) {
                put(roll.lots[line] == NONE ? NO_LOT : roll.lots[line]);
            }
            int check = 211;
            for (int k = 0; k < size; k++) {
                check = checked(check, bytes[k]);
            }
            put(check);
        }

        private void put(int value) {
            if (size < bytes.length) {
                bytes[size] = value;
                size++;
            }
        }

        private static int checked(int check, int value) {
            return (3 * check + value) % 251;
        }

        static int passesTold(Tape tape) {
            return tape.size < FRAME ? 0 : Math.min(PASSES, tape.at(1) * 256 + tape.at(2));
        }

        static boolean isOn(Tape tape, int lines) {
            if (tape.size < FRAME || tape.at(0) >= COINS || tape.at(1) * 256 + tape.at(2) > PASSES) {
                return false;
            }
            int count = passesTold(tape);
            if (tape.size != FRAME + 3 * count + lines) {
                return false;
            }
            int check = 211;
            for (int k = 0; k < tape.size - 1; k++) {
                check = checked(check, tape.at(k));
            }
            return check == tape.at(tape.size - 1) && hasGoodPasses(tape, count)
                    && hasGoodLots(tape, count, lines);
        }

        private static boolean hasGoodPasses(Tape tape, int count) {
            for (int k = 0; k < count; k++) {
                int at = 3 + 3 * k;
                if (tape.at(at) >= HOODS || tape.at(at + 1) >= GIFTS || tape.at(at + 2) >= GATES) {
                    return false;
                }
            }
            return true;
        }

        private static boolean hasGoodLots(Tape tape, int count, int lines) {
            for (int line = 0; line < lines; line++) {
                int lot = tape.at(3 + 3 * count + line);
                boolean good = count == 0 ? lot == NO_LOT : hasPassed(tape, count, lot);
                if (!good) {
                    return false;
                }
            }
            return true;
        }

        private static boolean hasPassed(Tape tape, int count, int hood) {
            for (int k = 0; k < count; k++) {
                if (tape.at(3 + 3 * k) == hood) {
                    return true;
                }
            }
            return false;
        }
    }

    /** The three books as the roll has them now, and a fourth for what would be. */
    private static final class Ledger {
        final Book first;
        final Book second;
        final Book all;
        final Marks marks;
        int found;
        int foundOut;
        private final Book trial;
        private final Marks trialMarks;
        private final Scene scene;
        private int marksCoin;
        private int entered;

        Ledger(Scene scene, Marks marks) {
            this.scene = scene;
            this.marks = marks;
            trialMarks = new Marks();
            first = new Book(marks);
            second = new Book(marks);
            all = new Book(marks);
            trial = new Book(marks);
            marksCoin = NONE;
            entered = NONE;
        }

        /** Another night: nothing that was reckoned holds. */
        void forget() {
            marksCoin = NONE;
            entered = NONE;
        }

        /** Other passes than those entered. */
        void startAgain() {
            entered = NONE;
        }

        void bringUp(Night night, Roll roll) {
            if (marksCoin != roll.coin) {
                for (int line = 0; line < LINES; line++) {
                    marks.fillLine(night, scene, roll.coin, line);
                }
                marksCoin = roll.coin;
                entered = NONE;
            }
            if (entered == NONE) {
                first.begin(night.lines, night.rows);
                second.begin(night.lines, night.rows);
                all.begin(night.lines, night.rows);
                entered = 0;
            }
            for (int k = entered; k < roll.count; k++) {
                Book gateBook = roll.gates[k] == 0 ? first : second;
                gateBook.add(roll.hoods[k], roll.gifts[k]);
                all.add(roll.hoods[k], roll.gifts[k]);
            }
            entered = roll.count;
        }

        Book bookOf(int book) {
            switch (book) {
                case 0: return first;
                case 1: return second;
                case 2: return all;
                default: return null;
            }
        }

        int linesAlike() {
            if (first.passes == 0 || second.passes == 0) {
                return 0;
            }
            int count = 0;
            for (int line = 0; line < all.lines; line++) {
                if (first.signs[line] == second.signs[line]) {
                    count++;
                }
            }
            return count;
        }

        void setScene(int hood, int coin) {
            scene.hood = hood;
            scene.coin = coin;
            scene.times = all.hoodTimes[hood];
            scene.told = all.toldOf(hood);
            scene.gave = all.hoodGave[hood];
            scene.atFirstGate = first.hoodTimes[hood];
            scene.atSecondGate = second.hoodTimes[hood];
        }

        int fewestLines(Roll roll, int kind, int much) {
            trial.marks = marks;
            for (int lines = 1; lines <= LINES; lines++) {
                trial.begin(lines, all.rows);
                for (int k = 0; k < roll.count; k++) {
                    trial.add(roll.hoods[k], roll.gifts[k]);
                }
                if (trial.outBy(kind) <= much) {
                    return lines;
                }
            }
            return NONE;
        }

        void findBestCoin(Night night, int kind) {
            trial.copy(all);
            trial.marks = trialMarks;
            found = NONE;
            for (int coin = 0; coin < COINS; coin++) {
                markTrial(night, kind, coin);
                int out = trial.outBy(kind);
                if (found == NONE || out < foundOut) {
                    found = coin;
                    foundOut = out;
                }
                // Nothing is less out than that, and no coin touches OFTEN.
                if (out == 0 || kind == BY_OFTEN) {
                    return;
                }
            }
        }

        /** Only what the kind looks at is made anew, by the lines that it looks at. */
        private void markTrial(Night night, int kind, int coin) {
            int last = lastLineOf(kind, all.rows);
            for (int line = firstLineOf(kind); line <= last; line++) {
                trialMarks.fillLine(night, scene, coin, line);
            }
            trial.wipeMarks();
            for (int hood = 0; hood < HOODS; hood++) {
                if (trial.hoodTimes[hood] > 0) {
                    trial.addMarks(hood, trial.hoodTimes[hood], kind);
                }
            }
        }

        private static int firstLineOf(int kind) {
            switch (kind) {
                case BY_UNLIKE: return 0;
                case BY_RUNS: return 1;
                case BY_TOLD: return 2;
                default: return 5;
            }
        }

        private static int lastLineOf(int kind, int rows) {
            switch (kind) {
                case BY_UNLIKE: return 0;
                case BY_RUNS: return 1;
                case BY_TOLD: return 1 + rows;
                default: return 6;
            }
        }

        void findCrossHood(int kind) {
            trial.marks = marks;
            found = NONE;
            foundOut = NONE;
            for (int hood = 0; hood < HOODS; hood++) {
                trial.copy(all);
                trial.add(hood, 0);
                int out = trial.outBy(kind);
                if (out > foundOut) {
                    found = hood;
                    foundOut = out;
                }
            }
        }

        int countTraceless() {
            int count = 0;
            for (int hood = 0; hood < HOODS; hood++) {
                if (all.leavesNoTrace(hood)) {
                    count++;
                }
            }
            return count;
        }

        int tracelessHood(int k) {
            int ahead = 0;
            for (int hood = 0; hood < HOODS; hood++) {
                if (all.leavesNoTrace(hood)) {
                    if (ahead == k) {
                        return hood;
                    }
                    ahead++;
                }
            }
            return NONE;
        }
    }
}
