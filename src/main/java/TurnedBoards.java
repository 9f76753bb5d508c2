import java.util.Arrays;

/** A signwriter's shop told as a text: letters, words, boards, rain, lines for two readers, questions. */
public final class TurnedBoards {
    public static final int NONE = -1;
    public static final long NOTHING = -1000000000000000L;

    private static final int HANDS = 2;
    private static final int PLACES = 6;
    private static final int STROKES = 15;
    private static final int FULL_GLYPH = 32767;
    private static final int LAST_YEAR = 999;
    private static final int MOST_YEARS = 100;
    private static final int MOST_AHEAD = 60;
    private static final int FEED_BYTES = 20;

    private static final int REFUSED_TAPE = 0;
    private static final int REFUSED_SHOP = 1;
    private static final int REFUSED_BRUSH = 2;
    private static final int REFUSED_YEARS = 3;
    private static final int REFUSED_UNDO = 4;
    private static final int REFUSED_SETTING = 5;
    private static final int REFUSALS = 6;

    private final Tape tape;
    private final Tokens tokens;
    private final ShopReader shopReader;
    private final Question question;
    private final Wall wall;
    private final Image image;
    private final int[] refused;
    private Shop shop;
    // A shop with a fault must leave all as it was, so each is read into this one first.
    private Shop draft;
    private long drawn;

    public TurnedBoards() {
        tape = new Tape();
        tokens = new Tokens(tape);
        Program asked = new Program();
        FormulaReader formulas = new FormulaReader(tokens, asked);
        shopReader = new ShopReader(tokens, formulas);
        question = new Question(tokens, formulas, asked);
        wall = new Wall();
        image = new Image();
        refused = new int[REFUSALS];
        shop = new Shop();
        draft = new Shop();
        drawn = 1;
    }

    public int feed(int a, int b, int c, int d, int e) {
        if (tape.length() + FEED_BYTES > Tape.MOST) {
            refuse(REFUSED_TAPE);
            return NONE;
        }
        tape.addNumber(a);
        tape.addNumber(b);
        tape.addNumber(c);
        tape.addNumber(d);
        tape.addNumber(e);
        return tape.length();
    }

    public boolean end(int n) {
        if (n < 0 || n > tape.length()) {
            return refuse(REFUSED_TAPE);
        }
        tape.cut(n);
        return true;
    }

    public int shop() {
        boolean good = shopReader.readInto(draft);
        tape.cut(0);
        if (!good) {
            refuse(REFUSED_SHOP);
            return NONE;
        }
        Shop old = shop;
        shop = draft;
        draft = old;
        wall.hang(shop);
        return shop.statements;
    }

    public int fault(int what) {
        switch (what) {
            case 0: return tokens.faultKind;
            case 1: return tokens.faultPlace;
            default: return NONE;
        }
    }

    public int has(int what) {
        switch (what) {
            case 0: return shop.letters.count(0);
            case 1: return shop.letters.count(1);
            case 2: return shop.wordCount;
            case 3: return shop.boardCount;
            case 4: return wall.yearNow();
            case 5: return wall.strokesInAll();
            case 6: return wall.keptCount();
            case 7: return wall.actsToUndo();
            default: return NONE;
        }
    }

    public int letter(int hand, int k, int what) {
        if (!shop.letters.holds(hand, k)) {
            return NONE;
        }
        int told = shop.letters.glyphOf(hand, k);
        switch (what) {
            case 0: return shop.letters.nameOf(hand, k);
            case 1: return told;
            case 2: return Integer.bitCount(told);
            default: return NONE;
        }
    }

    public int word(int word, int k) {
        if (!shop.holdsWord(word) || k < 0 || k >= PLACES) {
            return NONE;
        }
        return shop.letterAt(word, k);
    }

    public int board(int board, int what) {
        if (!holdsBoard(board)) {
            return NONE;
        }
        switch (what) {
            case 0: return wall.wordOf(board);
            case 1: return wall.handOf(board);
            case 2: return placesOf(board);
            default: return NONE;
        }
    }

    public int glyph(int board, int place) {
        return holdsPlace(board, place) ? wall.glyphAt(board, place) : NONE;
    }

    public int kept(int k, int what) {
        return wall.keptPart(k, what);
    }

    // ---- seen and read

    public int seen(int glyph, int how) {
        return isGlyph(glyph) && isView(how) ? Alphabet.turned(glyph, how) : NONE;
    }

    public long doubt(int hand, int k, int glyph) {
        if (!shop.letters.holds(hand, k) || !isGlyph(glyph)) {
            return NOTHING;
        }
        return shop.letters.doubtOf(hand, k, glyph);
    }

    public int reads(int hand, int glyph, int how) {
        if (!isHand(hand) || !isGlyph(glyph) || !isView(how)) {
            return NONE;
        }
        return shop.letters.readingOf(hand, Alphabet.turned(glyph, how));
    }

    public int says(int board, int how, int n, int k) {
        if (!holdsPlace(board, k) || !isView(how) || n < 0 || n > yearsAhead()) {
            return NONE;
        }
        int place = readsBackwards(how) ? placesOf(board) - 1 - k : k;
        int worn = wall.glyphAt(board, place);
        for (int i = 0; i < n; i++) {
            worn = shop.washed(worn, place, wall.yearNow() + i);
        }
        return shop.letters.readingOf(wall.handOf(board), Alphabet.turned(worn, how));
    }

    public int becomes(int word, int hand, int how) {
        if (!shop.holdsWord(word) || !isHand(hand) || !isView(how) || !shop.canPaint(word, hand)) {
            return NONE;
        }
        return shop.wordSeen(word, hand, how);
    }

    // ---- lines

    public int line(int one, int other, int hand, int what) {
        if (!hasLine(one, other, hand)) {
            return NONE;
        }
        shop.lines.find(shop, one, other, hand);
        switch (what) {
            case 0: return shop.lines.doubtInAll();
            case 1: return shop.lines.strokesInAll();
            case 2: return shop.lines.pieceCount();
            default: return NONE;
        }
    }

    public int piece(int one, int other, int hand, int k, int what) {
        if (!hasLine(one, other, hand)) {
            return NONE;
        }
        shop.lines.find(shop, one, other, hand);
        return shop.lines.piecePart(k, what);
    }

    public int best(int word) {
        if (!shop.holdsWord(word)) {
            return NONE;
        }
        int found = 0;
        for (int other = 1; other < shop.wordCount; other++) {
            if (shop.leastDoubt(word, other) < shop.leastDoubt(word, found)) {
                found = other;
            }
        }
        return found;
    }

    public int hand(int one, int other) {
        if (!shop.holdsWord(one) || !shop.holdsWord(other)) {
            return NONE;
        }
        if (!hasLine(one, other, 1)) {
            return 0;
        }
        shop.lines.find(shop, one, other, 1);
        return shop.lines.doubtInAll() < shop.leastDoubt(one, other) ? 1 : 0;
    }

    // ---- worn boards

    public int been(int board) {
        if (!holdsBoard(board)) {
            return NONE;
        }
        int bits = 0;
        for (int word = 0; word < shop.wordCount; word++) {
            if (mayHaveBeen(board, word)) {
                bits |= 1 << word;
            }
        }
        return bits;
    }

    public int lasts(int board) {
        if (!holdsBoard(board)) {
            return NONE;
        }
        int least = yearsAhead();
        for (int place = 0; place < placesOf(board) && least != NONE; place++) {
            least = yearsOfPlace(board, place, least);
        }
        return least;
    }

    public int mend(int board, int place, int k) {
        if (!holdsPlace(board, place) || !shop.letters.holds(wall.handOf(board), k)) {
            return NONE;
        }
        return shop.letters.strokesToMend(wall.handOf(board), k, wall.glyphAt(board, place));
    }

    // ---- acts

    public int years(int n) {
        if (!canPass(n)) {
            refuse(REFUSED_YEARS);
            return NONE;
        }
        wall.remember();
        int lost = 0;
        for (int i = 0; i < n; i++) {
            wall.beginYear();
            lost += wall.endYear(shop);
        }
        return lost;
    }

    public int chance(int n) {
        if (!canPass(n)) {
            refuse(REFUSED_YEARS);
            return NONE;
        }
        wall.remember();
        int lost = 0;
        for (int i = 0; i < n; i++) {
            wall.beginYear();
            lost += hailLoss();
            wall.endYear(shop);
        }
        return lost;
    }

    public boolean stroke(int board, int place, int bit, int on) {
        if (!holdsPlace(board, place) || bit < 0 || bit >= STROKES || on < 0 || on > 1) {
            return refuse(REFUSED_BRUSH);
        }
        int old = wall.glyphAt(board, place);
        if ((old >> bit & 1) == on) {
            return refuse(REFUSED_BRUSH);
        }
        wall.remember();
        wall.setGlyph(board, place, old ^ 1 << bit);
        return true;
    }

    public boolean paint(int board, int word, int hand) {
        if (!holdsBoard(board) || !shop.holdsWord(word) || !isHand(hand) || !shop.canPaint(word, hand)) {
            return refuse(REFUSED_BRUSH);
        }
        wall.remember();
        wall.paintAnew(shop, board, word, hand);
        return true;
    }

    public boolean undo() {
        return wall.takeBack() || refuse(REFUSED_UNDO);
    }

    public boolean seed(int seed) {
        if (seed < 0) {
            return refuse(REFUSED_SETTING);
        }
        drawn = seed;
        return true;
    }

    // ---- questions

    public long ask() {
        boolean good = question.read();
        tape.cut(0);
        if (!good) {
            return NOTHING;
        }
        question.beginAnswer();
        for (int word = 0; word < shop.wordCount; word++) {
            question.weigh(shop, word, wall.yearNow());
        }
        return question.answer();
    }

    // ---- images, refusals

    public int image() {
        return image.write(wall, shop);
    }

    public int octet(int k) {
        return image.byteAt(k);
    }

    public boolean on() {
        boolean good = Image.fits(tape, shop);
        if (good) {
            Image.restore(tape, wall, shop);
        }
        tape.cut(0);
        return good || refuse(REFUSED_SETTING);
    }

    public int status(int what) {
        return what >= 0 && what < REFUSALS ? refused[what] : NONE;
    }

    /** Answers false, so that a refused call can hand it on. */
    private boolean refuse(int kind) {
        if (kind >= 0 && kind < REFUSALS) {
            refused[kind]++;
        }
        return false;
    }

    private static boolean isHand(int hand) {
        return hand >= 0 && hand < HANDS;
    }

    private static boolean isGlyph(int glyph) {
        return glyph >= 0 && glyph <= FULL_GLYPH;
    }

    private static boolean isView(int how) {
        return how >= 0 && how <= 3;
    }

    private static boolean readsBackwards(int how) {
        return how == 1 || how == 3;
    }

    private boolean holdsBoard(int board) {
        return board >= 0 && board < shop.boardCount;
    }

    private boolean holdsPlace(int board, int place) {
        return holdsBoard(board) && place >= 0 && place < placesOf(board);
    }

    private int placesOf(int board) {
        return shop.sizeOf(wall.wordOf(board));
    }

    private int yearsAhead() {
        return Math.min(MOST_AHEAD, LAST_YEAR - wall.yearNow());
    }

    private boolean hasLine(int one, int other, int hand) {
        return shop.holdsWord(one) && shop.holdsWord(other) && isHand(hand)
                && shop.canPaint(one, hand) && shop.canPaint(other, hand);
    }

    private boolean mayHaveBeen(int board, int word) {
        if (shop.sizeOf(word) != placesOf(board) || !shop.canPaint(word, wall.handOf(board))) {
            return false;
        }
        for (int place = 0; place < placesOf(board); place++) {
            int whole = shop.paintedGlyph(word, wall.handOf(board), place);
            if ((wall.glyphAt(board, place) & ~whole) != 0) {
                return false;
            }
        }
        return true;
    }

    /** How many years, at most so many, a place still says its letter; NONE when it does not now. */
    private int yearsOfPlace(int board, int place, int most) {
        int due = shop.letterAt(wall.wordOf(board), place);
        int hand = wall.handOf(board);
        int worn = wall.glyphAt(board, place);
        if (shop.letters.readingOf(hand, worn) != due) {
            return NONE;
        }
        for (int i = 0; i < most; i++) {
            int next = shop.washed(worn, place, wall.yearNow() + i);
            if (next != worn && shop.letters.readingOf(hand, next) != due) {
                return i;
            }
            worn = next;
        }
        return most;
    }

    private boolean canPass(int n) {
        return n >= 1 && n <= MOST_YEARS && wall.yearNow() + n <= LAST_YEAR;
    }

    private int hailLoss() {
        if (draw(100) >= shop.hail || shop.boardCount == 0) {
            return 0;
        }
        int board = draw(shop.boardCount);
        int place = draw(placesOf(board));
        int bit = draw(STROKES);
        int old = wall.glyphAt(board, place);
        if ((old >> bit & 1) == 0) {
            return 0;
        }
        wall.setGlyph(board, place, old ^ 1 << bit);
        return 1;
    }

    private int draw(int m) {
        drawn = (1103515245L * drawn + 12345L) & 0x7fffffffL;
        return m < 1 ? 0 : (int) (drawn / 64 % m);
    }

    /** The bytes that are fed. */
    private static final class Tape {
        static final int MOST = 1600;

        private final byte[] bytes = new byte[MOST];
        private int length;

        int length() {
            return length;
        }

        void addNumber(int number) {
            for (int shift = 24; shift >= 0; shift -= 8) {
                if (length < MOST) {
                    bytes[length] = (byte) (number >> shift);
                    length++;
                }
            }
        }

        void cut(int n) {
            if (n >= 0 && n <= length) {
                length = n;
            }
        }

        /** The byte at a place, 0 .. 255; NONE where there is none. */
        int at(int place) {
            return place >= 0 && place < length ? bytes[place] & 255 : NONE;
        }
    }

    /** The tape as words, numbers and signs, with the first fault that was found. */
    private static final class Tokens {
        static final int END = 0;
        static final int WORD = 1;
        static final int NUMBER = 2;
        static final int SIGN = 3;
        // A word or a number without the blank that it needs: it is never what is asked.
        static final int GLUED = 4;

        static final int FAULT_TEXT = 1;
        static final int FAULT_NUMBER = 2;
        static final int FAULT_NAME = 3;
        static final int FAULT_DEPTH = 4;
        static final int FAULT_MANY = 5;

        static final int MOST_DIGITS = 4;
        static final int MOST_NUMBER = 9999;
        private static final String OWN_WORDS = " letter hand is word board doubt rain blank hail more less ink column row place near year number long line at or and not all min max forgive ";

        private final Tape tape;
        private int kind;
        private int at;
        private int size;
        private int number;
        private int numberAt;
        private int faultKind;
        private int faultPlace = NONE;

        Tokens(Tape tape) {
            this.tape = tape;
        }

        void begin() {
            faultKind = 0;
            faultPlace = NONE;
            kind = SIGN;
            at = 0;
            size = 0;
            advance();
        }

        void advance() {
            boolean needsBlank = kind == WORD || kind == NUMBER;
            int from = at + size;
            at = from;
            while (at < tape.length() && (tape.at(at) == 10 || tape.at(at) == 32)) {
                at++;
            }
            kind = kindOf(tape.at(at));
            size = kind == END ? 0 : 1;
            if (kind == WORD || kind == NUMBER) {
                while (at + size < tape.length() && kindOf(tape.at(at + size)) == kind) {
                    size++;
                }
                if (needsBlank && at == from) {
                    kind = GLUED;
                }
            }
        }

        private static int kindOf(int sign) {
            if (sign == NONE) {
                return END;
            }
            if (sign >= 'a' && sign <= 'z') {
                return WORD;
            }
            return sign >= '0' && sign <= '9' ? NUMBER : SIGN;
        }

        boolean atEnd() {
            return kind == END;
        }

        boolean is(String word) {
            return kind == WORD && size == word.length() && spells(word, 0);
        }

        boolean isSign(char sign) {
            return kind == SIGN && tape.at(at) == sign;
        }

        private boolean spells(String text, int from) {
            for (int i = 0; i < size; i++) {
                if (from + i >= text.length() || at + i >= tape.length || text.charAt(from + i) != tape.bytes[at + i]) {
                    return false;
                }
            }
            return true;
        }

        private boolean isOwnWord() {
            for (int i = 0; i + size + 1 < OWN_WORDS.length(); i++) {
                if (OWN_WORDS.charAt(i) == ' ' && OWN_WORDS.charAt(i + size + 1) == ' ' && spells(OWN_WORDS, i + 1)) {
                    return true;
                }
            }
            return false;
        }

        boolean takeWord(String word) {
            if (!is(word)) {
                return failHere(FAULT_TEXT);
            }
            advance();
            return true;
        }

        boolean takeSign(char sign) {
            if (!isSign(sign)) {
                return failHere(FAULT_TEXT);
            }
            advance();
            return true;
        }

        /** A number up to the greatest that can be here. */
        boolean takeNumber(int most) {
            if (kind != NUMBER) {
                return failHere(FAULT_TEXT);
            }
            if (size > MOST_DIGITS) {
                return fail(FAULT_TEXT, at + MOST_DIGITS);
            }
            number = 0;
            for (int i = 0; i < size; i++) {
                number = number * 10 + tape.at(at + i) - '0';
            }
            numberAt = at;
            if (number > most) {
                return failHere(FAULT_NUMBER);
            }
            advance();
            return true;
        }

        /** Looks at a NAME and leaves it in place, since what it names is still to be judged at it. */
        boolean isName(int mostLetters) {
            if (kind != WORD || isOwnWord()) {
                return failHere(FAULT_TEXT);
            }
            return size <= mostLetters || fail(FAULT_TEXT, at + mostLetters);
        }

        int copyName(int[] letters) {
            for (int i = 0; i < size && i < letters.length; i++) {
                letters[i] = tape.at(at + i) - 'a' + 1;
            }
            return Math.min(size, letters.length);
        }

        boolean failHere(int fault) {
            return fail(fault, at);
        }

        boolean failAtNumber(int fault) {
            return fail(fault, numberAt);
        }

        /** Answers false, so that all that reads can hand it on and stop. */
        private boolean fail(int fault, int place) {
            faultKind = fault;
            faultPlace = place;
            return false;
        }
    }

    /** A SUM or a TEST as steps on a stack: a fact is 1 or 0. */
    private static final class Program {
        static final int MORE = 0;
        static final int LESS = 1;
        static final int INK = 2;
        static final int COLUMN = 3;
        static final int ROW = 4;
        static final int PLACE = 5;
        static final int NEAR = 6;
        static final int YEAR = 7;
        static final int WORD_NUMBER = 8;
        static final int LONG = 9;
        static final int FIRST_LETTER = 10;
        static final int FIRST_LINE = FIRST_LETTER + PLACES;
        static final int SLOTS = FIRST_LINE + Shop.MOST_WORDS;

        static final int PUSH = 0;
        static final int VALUE = 1;
        static final int NOT = 2;
        static final int LINE = 3;
        static final int AT = 4;
        static final int ADD = 5;
        static final int SUBTRACT = 6;
        static final int TIMES = 7;
        static final int OVER = 8;
        static final int BELOW = 9;
        static final int ABOVE = 10;
        static final int SAME = 11;
        static final int AND = 12;
        static final int OR = 13;
        static final int MIN = 14;
        static final int MAX = 15;
        private static final int STEP_BITS = 4;

        private static final int LIMIT = 1000000;
        // At most seven levels stand open, each with no more than six values that wait.
        private static final int STACK = 64;

        private final int[] steps = new int[Tape.MOST];
        private final int[] stack = new int[STACK];
        private int count;

        void clear() {
            count = 0;
        }

        void add(int step, int operand) {
            if (count < steps.length) {
                steps[count] = operand << STEP_BITS | step;
                count++;
            }
        }

        boolean uses(int step) {
            for (int i = 0; i < count; i++) {
                if ((steps[i] & 15) == step) {
                    return true;
                }
            }
            return false;
        }

        /** The outcome by the values, of which there are SLOTS; 0 without steps. */
        int run(int[] values) {
            int top = 0;
            for (int i = 0; i < count; i++) {
                int step = steps[i] & 15;
                int operand = steps[i] >> STEP_BITS;
                if (step <= VALUE) {
                    if (top < STACK) {
                        stack[top] = step == PUSH ? operand : valueAt(values, 0, operand, SLOTS);
                        top++;
                    }
                } else if (step <= AT) {
                    if (top >= 1) {
                        int a = stack[top - 1];
                        stack[top - 1] = step == NOT ? 1 - a
                                : step == LINE ? valueAt(values, FIRST_LINE, a, Shop.MOST_WORDS)
                                : valueAt(values, FIRST_LETTER, a, PLACES);
                    }
                } else if (top >= 2) {
                    top--;
                    stack[top - 1] = ofTwo(step, stack[top - 1], stack[top]);
                }
            }
            return top >= 1 ? stack[0] : 0;
        }

        private static int valueAt(int[] values, int first, int n, int many) {
            return n >= 0 && n < many && first + n < values.length ? values[first + n] : NONE;
        }

        private static int ofTwo(int step, int a, int b) {
            switch (step) {
                case ADD: return Math.max(-LIMIT, Math.min(LIMIT, a + b));
                case SUBTRACT: return Math.max(-LIMIT, Math.min(LIMIT, a - b));
                case TIMES: return (int) Math.max(-LIMIT, Math.min(LIMIT, (long) a * b));
                case OVER: return b == 0 ? 0 : Math.floorDiv(a, b);
                case BELOW: return a < b ? 1 : 0;
                case ABOVE: return a > b ? 1 : 0;
                case SAME: return a == b ? 1 : 0;
                case AND: return a & b;
                case OR: return a | b;
                case MIN: return Math.min(a, b);
                default: return Math.max(a, b);
            }
        }
    }

    /** Reads a TEST or a SUM into a program; how many openings stand open is carried along. */
    private static final class FormulaReader {
        static final int OF_DOUBT = 0;
        static final int OF_RAIN = 1;
        static final int OF_QUESTION = 2;
        private static final int MOST_OPEN = 6;

        private final Tokens tokens;
        private Program program;
        private int subject;

        FormulaReader(Tokens tokens, Program program) {
            this.tokens = tokens;
            this.program = program;
        }

        void aim(Program target, int about) {
            target.clear();
            program = target;
            subject = about;
        }

        private boolean test(int open) {
            if (!both(open)) {
                return false;
            }
            for (int i = 0; i < Tape.MOST && tokens.is("or"); i++) {
                tokens.advance();
                if (!both(open)) {
                    return false;
                }
                program.add(Program.OR, 0);
            }
            return true;
        }

        private boolean both(int open) {
            if (!fact(open)) {
                return false;
            }
            for (int i = 0; i < Tape.MOST && tokens.is("and"); i++) {
                tokens.advance();
                if (!fact(open)) {
                    return false;
                }
                program.add(Program.AND, 0);
            }
            return true;
        }

        private boolean fact(int open) {
            if (tokens.is("all")) {
                tokens.advance();
                program.add(Program.PUSH, 1);
                return true;
            }
            if (tokens.is("not")) {
                if (!opens(open) || !fact(open + 1)) {
                    return false;
                }
                program.add(Program.NOT, 0);
                return true;
            }
            if (tokens.isSign('[')) {
                return opens(open) && test(open + 1) && tokens.takeSign(']');
            }
            if (!sum(open)) {
                return false;
            }
            int step = tokens.isSign('<') ? Program.BELOW : tokens.isSign('>') ? Program.ABOVE : Program.SAME;
            if (step == Program.SAME && !tokens.isSign('=')) {
                return tokens.failHere(Tokens.FAULT_TEXT);
            }
            tokens.advance();
            if (!sum(open)) {
                return false;
            }
            program.add(step, 0);
            return true;
        }

        private boolean sum(int open) {
            if (!product(open)) {
                return false;
            }
            for (int i = 0; i < Tape.MOST && (tokens.isSign('+') || tokens.isSign('-')); i++) {
                int step = tokens.isSign('+') ? Program.ADD : Program.SUBTRACT;
                tokens.advance();
                if (!product(open)) {
                    return false;
                }
                program.add(step, 0);
            }
            return true;
        }

        private boolean product(int open) {
            if (!part(open)) {
                return false;
            }
            for (int i = 0; i < Tape.MOST && (tokens.isSign('*') || tokens.isSign('/')); i++) {
                int step = tokens.isSign('*') ? Program.TIMES : Program.OVER;
                tokens.advance();
                if (!part(open)) {
                    return false;
                }
                program.add(step, 0);
            }
            return true;
        }

        private boolean part(int open) {
            if (tokens.kind == Tokens.NUMBER) {
                if (!tokens.takeNumber(Tokens.MOST_NUMBER)) {
                    return false;
                }
                program.add(Program.PUSH, tokens.number);
                return true;
            }
            if (tokens.isSign('(')) {
                return opens(open) && sum(open + 1) && tokens.takeSign(')');
            }
            if (tokens.is("min")) {
                return lesserOrGreater(Program.MIN, open);
            }
            if (tokens.is("max")) {
                return lesserOrGreater(Program.MAX, open);
            }
            if (subject == OF_QUESTION && tokens.is("line")) {
                return lookUp(Program.LINE, open);
            }
            if (subject == OF_QUESTION && tokens.is("at")) {
                return lookUp(Program.AT, open);
            }
            int slot = subject == OF_DOUBT ? doubtSlot() : subject == OF_RAIN ? rainSlot() : questionSlot();
            if (slot == NONE) {
                return tokens.failHere(Tokens.FAULT_TEXT);
            }
            tokens.advance();
            program.add(Program.VALUE, slot);
            return true;
        }

        private boolean lesserOrGreater(int step, int open) {
            tokens.advance();
            if (!tokens.isSign('(')) {
                return tokens.failHere(Tokens.FAULT_TEXT);
            }
            if (!opens(open) || !sum(open + 1) || !tokens.takeSign(',') || !sum(open + 1)) {
                return false;
            }
            program.add(step, 0);
            return tokens.takeSign(')');
        }

        private boolean lookUp(int step, int open) {
            if (!opens(open) || !part(open + 1)) {
                return false;
            }
            program.add(step, 0);
            return true;
        }

        /** Passes what opens a level, if one more may stand open. */
        private boolean opens(int open) {
            if (open >= MOST_OPEN) {
                return tokens.failHere(Tokens.FAULT_DEPTH);
            }
            tokens.advance();
            return true;
        }

        private int doubtSlot() {
            if (tokens.is("more")) {
                return Program.MORE;
            }
            if (tokens.is("less")) {
                return Program.LESS;
            }
            return tokens.is("ink") ? Program.INK : NONE;
        }

        private int rainSlot() {
            if (tokens.is("column")) {
                return Program.COLUMN;
            }
            if (tokens.is("row")) {
                return Program.ROW;
            }
            if (tokens.is("place")) {
                return Program.PLACE;
            }
            if (tokens.is("near")) {
                return Program.NEAR;
            }
            return tokens.is("year") ? Program.YEAR : NONE;
        }

        private int questionSlot() {
            if (tokens.is("number")) {
                return Program.WORD_NUMBER;
            }
            if (tokens.is("long")) {
                return Program.LONG;
            }
            if (tokens.is("ink")) {
                return Program.INK;
            }
            return tokens.is("year") ? Program.YEAR : NONE;
        }
    }

    /** The letters of both hands, and how a glyph is read by them. */
    private static final class Alphabet {
        static final int MOST = 12;

        private final int[] counts = new int[HANDS];
        private final int[] names = new int[HANDS * MOST];
        private final int[] glyphs = new int[HANDS * MOST];
        private final int[] values = new int[Program.SLOTS];
        private final Program doubts = new Program();
        private int forgive;

        void clear() {
            Arrays.fill(counts, 0);
            forgive = 2;
            doubts.clear();
            doubts.add(Program.VALUE, Program.MORE);
            doubts.add(Program.VALUE, Program.LESS);
            doubts.add(Program.PUSH, 2);
            doubts.add(Program.TIMES, 0);
            doubts.add(Program.ADD, 0);
        }

        void tell(int hand, int name, int glyph) {
            if (isHand(hand) && counts[hand] < MOST) {
                names[hand * MOST + counts[hand]] = name;
                glyphs[hand * MOST + counts[hand]] = glyph;
                counts[hand]++;
            }
        }

        int count(int hand) {
            return isHand(hand) ? counts[hand] : 0;
        }

        boolean holds(int hand, int k) {
            return isHand(hand) && k >= 0 && k < counts[hand];
        }

        int nameOf(int hand, int k) {
            return holds(hand, k) ? names[hand * MOST + k] : 0;
        }

        int glyphOf(int hand, int k) {
            return holds(hand, k) ? glyphs[hand * MOST + k] : 0;
        }

        /** Which letter of a hand has that name; NONE without. */
        int indexOf(int hand, int name) {
            int many = count(hand);
            for (int k = 0; k < many; k++) {
                if (names[hand * MOST + k] == name) {
                    return k;
                }
            }
            return NONE;
        }

        int doubtOf(int hand, int k, int glyph) {
            int told = holds(hand, k) ? glyphs[hand * MOST + k] : 0;
            values[Program.MORE] = Integer.bitCount(glyph & ~told);
            values[Program.LESS] = Integer.bitCount(told & ~glyph);
            values[Program.INK] = Integer.bitCount(told);
            return Math.max(0, doubts.run(values));
        }

        /** The letter, 1 .. 26, that a glyph reads as in a hand; 0 when it says nothing. */
        int readingOf(int hand, int glyph) {
            int least = forgive + 1;
            int found = 0;
            int many = count(hand);
            for (int k = 0; k < many; k++) {
                int here = doubtOf(hand, k, glyph);
                if (here < least) {
                    least = here;
                    found = names[hand * MOST + k];
                }
            }
            return found;
        }

        /** How many strokes of a letter, in the order of bits, make a glyph read as it; NONE if all don't. */
        int strokesToMend(int hand, int k, int glyph) {
            int due = nameOf(hand, k);
            int mended = glyph;
            int painted = 0;
            if (readingOf(hand, mended) == due) {
                return 0;
            }
            for (int bit = 0; bit < STROKES; bit++) {
                int missing = glyphOf(hand, k) & ~mended & 1 << bit;
                if (missing != 0) {
                    mended |= missing;
                    painted++;
                    if (readingOf(hand, mended) == due) {
                        return painted;
                    }
                }
            }
            return NONE;
        }

        static int turned(int glyph, int how) {
            int result = 0;
            for (int bit = 0; bit < STROKES; bit++) {
                if ((glyph >> bit & 1) != 0) {
                    int row = how == 1 || how == 2 ? 4 - bit / 3 : bit / 3;
                    int column = how == 1 || how == 3 ? 2 - bit % 3 : bit % 3;
                    result |= 1 << 3 * row + column;
                }
            }
            return result;
        }

        /** How many of the four strokes next to one are there. */
        static int nearOf(int glyph, int bit) {
            int column = bit % 3;
            int near = 0;
            if (bit >= 3) {
                near += glyph >> bit - 3 & 1;
            }
            if (bit + 3 < STROKES) {
                near += glyph >> bit + 3 & 1;
            }
            if (column > 0) {
                near += glyph >> bit - 1 & 1;
            }
            if (column < 2) {
                near += glyph >> bit + 1 & 1;
            }
            return near;
        }
    }

    /** What a text tells: letters, words, boards as they are at first, and the rules. */
    private static final class Shop {
        static final int MOST_WORDS = 8;
        static final int MOST_BOARDS = 4;

        private final Alphabet letters = new Alphabet();
        private final LineFinder lines = new LineFinder();
        private final Program rain = new Program();
        private final int[] values = new int[Program.SLOTS];
        private final int[] sizes = new int[MOST_WORDS];
        private final int[] wordLetters = new int[MOST_WORDS * PLACES];
        private final int[] boardWords = new int[MOST_BOARDS];
        private final int[] boardHands = new int[MOST_BOARDS];
        private final int[] said = new int[PLACES];
        // The doubt of the least line of each two words in hand 0, NONE till it is asked for.
        private final int[] leastDoubts = new int[MOST_WORDS * MOST_WORDS];
        private int wordCount;
        private int boardCount;
        private int statements;
        private int blank;
        private int hail;

        Shop() {
            clear();
        }

        private void clear() {
            letters.clear();
            lines.forget();
            rain.clear();
            Arrays.fill(leastDoubts, NONE);
            wordCount = 0;
            boardCount = 0;
            statements = 0;
            blank = 9;
            hail = 0;
        }

        void tellWord(int[] name, int size) {
            if (wordCount < MOST_WORDS) {
                for (int k = 0; k < PLACES && k < name.length; k++) {
                    wordLetters[wordCount * PLACES + k] = k < size ? name[k] : 0;
                }
                sizes[wordCount] = Math.min(size, PLACES);
                wordCount++;
            }
        }

        void tellBoard(int word, int hand) {
            if (boardCount < MOST_BOARDS) {
                boardWords[boardCount] = word;
                boardHands[boardCount] = hand;
                boardCount++;
            }
        }

        boolean holdsWord(int word) {
            return word >= 0 && word < wordCount;
        }

        int sizeOf(int word) {
            return holdsWord(word) ? sizes[word] : 0;
        }

        /** The letter at a place, 1 .. 26; 0 behind the word. */
        int letterAt(int word, int place) {
            return holdsWord(word) && place >= 0 && place < PLACES ? wordLetters[word * PLACES + place] : 0;
        }

        int findWord(int[] name, int size) {
            for (int word = 0; word < wordCount; word++) {
                boolean same = sizes[word] == size && size <= name.length;
                for (int k = 0; k < size && same; k++) {
                    same = wordLetters[word * PLACES + k] == name[k];
                }
                if (same) {
                    return word;
                }
            }
            return NONE;
        }

        boolean canPaint(int word, int hand) {
            int size = sizeOf(word);
            for (int k = 0; k < size; k++) {
                if (letters.indexOf(hand, letterAt(word, k)) == NONE) {
                    return false;
                }
            }
            return true;
        }

        /** The glyph that a word has at a place when it is painted; 0 behind it. */
        int paintedGlyph(int word, int hand, int place) {
            int k = letters.indexOf(hand, letterAt(word, place));
            return k == NONE ? 0 : letters.glyphOf(hand, k);
        }

        int wordSeen(int word, int hand, int how) {
            int size = sizeOf(word);
            for (int k = 0; k < size && k < PLACES; k++) {
                int place = readsBackwards(how) ? size - 1 - k : k;
                int painted = paintedGlyph(word, hand, place);
                said[k] = letters.readingOf(hand, Alphabet.turned(painted, how));
            }
            return findWord(said, size);
        }

        int leastDoubt(int one, int other) {
            if (!holdsWord(one) || !holdsWord(other)) {
                return NONE;
            }
            int cell = one * MOST_WORDS + other;
            if (leastDoubts[cell] == NONE) {
                lines.find(this, one, other, 0);
                leastDoubts[cell] = lines.doubtInAll();
            }
            return leastDoubts[cell];
        }

        int inkOf(int word) {
            int strokes = 0;
            int size = sizeOf(word);
            for (int k = 0; k < size; k++) {
                strokes += Integer.bitCount(paintedGlyph(word, 0, k));
            }
            return strokes;
        }

        /** What the rain of a year leaves of a glyph. */
        int washed(int glyph, int place, int year) {
            int left = glyph;
            values[Program.PLACE] = place;
            values[Program.YEAR] = year;
            for (int bit = 0; bit < STROKES; bit++) {
                if ((glyph >> bit & 1) != 0) {
                    values[Program.COLUMN] = bit % 3;
                    values[Program.ROW] = bit / 3;
                    values[Program.NEAR] = Alphabet.nearOf(glyph, bit);
                    if (rain.run(values) != 0) {
                        left ^= 1 << bit;
                    }
                }
            }
            return left;
        }
    }

    /** Reads the statements of a shop. */
    private static final class ShopReader {
        private static final int MOST_STATEMENTS = 60;
        private static final int ROWS = 5;
        private static final int MOST_ROW = 7;
        private static final int MOST_SETTING = 99;
        private static final int MOST_HAIL = 100;

        private final Tokens tokens;
        private final FormulaReader formulas;
        private final int[] name = new int[PLACES];
        private boolean doubtTold;
        private boolean rainTold;

        ShopReader(Tokens tokens, FormulaReader formulas) {
            this.tokens = tokens;
            this.formulas = formulas;
        }

        boolean readInto(Shop shop) {
            shop.clear();
            doubtTold = false;
            rainTold = false;
            tokens.begin();
            for (int i = 0; i < MOST_STATEMENTS && !tokens.atEnd(); i++) {
                if (!statement(shop) || !tokens.takeSign(';')) {
                    return false;
                }
                shop.statements++;
            }
            return tokens.atEnd() || tokens.failHere(Tokens.FAULT_MANY);
        }

        private boolean statement(Shop shop) {
            if (tokens.is("letter")) {
                return letterStatement(shop);
            }
            if (tokens.is("word")) {
                return wordStatement(shop);
            }
            if (tokens.is("board")) {
                return boardStatement(shop);
            }
            if (tokens.is("doubt")) {
                if (doubtTold) {
                    return tokens.failHere(Tokens.FAULT_MANY);
                }
                doubtTold = true;
                tokens.advance();
                formulas.aim(shop.letters.doubts, FormulaReader.OF_DOUBT);
                return formulas.sum(0);
            }
            if (tokens.is("rain")) {
                if (rainTold) {
                    return tokens.failHere(Tokens.FAULT_MANY);
                }
                rainTold = true;
                tokens.advance();
                formulas.aim(shop.rain, FormulaReader.OF_RAIN);
                return formulas.test(0);
            }
            return settingStatement(shop);
        }

        private boolean settingStatement(Shop shop) {
            boolean forgives = tokens.is("forgive");
            boolean hails = tokens.is("hail");
            if (!forgives && !hails && !tokens.is("blank")) {
                return tokens.failHere(Tokens.FAULT_TEXT);
            }
            tokens.advance();
            if (!tokens.takeNumber(hails ? MOST_HAIL : MOST_SETTING)) {
                return false;
            }
            if (forgives) {
                shop.letters.forgive = tokens.number;
            } else if (hails) {
                shop.hail = tokens.number;
            } else {
                shop.blank = tokens.number;
            }
            return true;
        }

        private boolean letterStatement(Shop shop) {
            tokens.advance();
            if (!tokens.isName(1)) {
                return false;
            }
            tokens.copyName(name);
            tokens.advance();
            if (!tokens.takeWord("hand") || !tokens.takeNumber(HANDS - 1)) {
                return false;
            }
            int hand = tokens.number;
            if (shop.letters.count(hand) >= Alphabet.MOST) {
                return tokens.failAtNumber(Tokens.FAULT_MANY);
            }
            if (shop.letters.indexOf(hand, name[0]) != NONE) {
                return tokens.failAtNumber(Tokens.FAULT_NUMBER);
            }
            if (!tokens.takeWord("is")) {
                return false;
            }
            int glyph = 0;
            for (int row = 0; row < ROWS; row++) {
                if (!tokens.takeNumber(MOST_ROW)) {
                    return false;
                }
                glyph |= rowStrokes(tokens.number) << 3 * row;
            }
            shop.letters.tell(hand, name[0], glyph);
            return true;
        }

        /** A row is told with its left stroke as the highest bit, and held with it as the lowest. */
        private static int rowStrokes(int told) {
            return told >> 2 & 1 | told & 2 | (told & 1) << 2;
        }

        private boolean wordStatement(Shop shop) {
            if (shop.wordCount >= Shop.MOST_WORDS) {
                return tokens.failHere(Tokens.FAULT_MANY);
            }
            tokens.advance();
            if (!tokens.isName(PLACES)) {
                return false;
            }
            int size = tokens.copyName(name);
            boolean told = shop.findWord(name, size) == NONE;
            for (int k = 0; k < size && told; k++) {
                told = shop.letters.indexOf(0, name[k]) != NONE;
            }
            if (!told) {
                return tokens.failHere(Tokens.FAULT_NAME);
            }
            shop.tellWord(name, size);
            tokens.advance();
            return true;
        }

        private boolean boardStatement(Shop shop) {
            if (shop.boardCount >= Shop.MOST_BOARDS) {
                return tokens.failHere(Tokens.FAULT_MANY);
            }
            tokens.advance();
            if (!tokens.isName(PLACES)) {
                return false;
            }
            int word = shop.findWord(name, tokens.copyName(name));
            if (word == NONE) {
                return tokens.failHere(Tokens.FAULT_NAME);
            }
            tokens.advance();
            if (!tokens.takeWord("hand") || !tokens.takeNumber(HANDS - 1)) {
                return false;
            }
            if (!shop.canPaint(word, tokens.number)) {
                return tokens.failAtNumber(Tokens.FAULT_NUMBER);
            }
            shop.tellBoard(word, tokens.number);
            return true;
        }
    }

    /** The least line for two words: a table of what is still to come, from the end on. */
    private static final class LineFinder {
        private static final int SIDE = PLACES + 1;
        private static final int GLYPHS = 4;
        private static final int FOR_ONE = 4;
        private static final int FOR_OTHER = 5;
        // Doubt weighs more than all strokes that a line can have (12 pieces of 15).
        private static final int WEIGHT = 256;
        private static final int ENDLESS = 1000000000;

        private final int[] oneLetters = new int[PLACES];
        private final int[] otherLetters = new int[PLACES];
        private final int[] oneGlyphs = new int[PLACES];
        private final int[] otherGlyphs = new int[PLACES];
        private final int[] costs = new int[SIDE * SIDE];
        private final int[] choices = new int[SIDE * SIDE];
        private final int[] chosenGlyphs = new int[SIDE * SIDE];
        private final int[] owners = new int[2 * PLACES];
        private final int[] pieceGlyphs = new int[2 * PLACES];
        private int pieces;
        private int foundOne = NONE;
        private int foundOther = NONE;
        private int foundHand = NONE;

        void forget() {
            foundOne = NONE;
        }

        /** Finds the line of two words that can be painted in the hand. */
        void find(Shop shop, int one, int other, int hand) {
            if (one == foundOne && other == foundOther && hand == foundHand) {
                return;
            }
            int oneSize = shop.sizeOf(one);
            int otherSize = shop.sizeOf(other);
            for (int i = 0; i < oneSize; i++) {
                oneLetters[i] = shop.letters.indexOf(hand, shop.letterAt(one, i));
                oneGlyphs[i] = shop.paintedGlyph(one, hand, i);
            }
            for (int j = 0; j < otherSize; j++) {
                int place = otherSize - 1 - j;
                otherLetters[j] = shop.letters.indexOf(hand, shop.letterAt(other, place));
                otherGlyphs[j] = Alphabet.turned(shop.paintedGlyph(other, hand, place), 1);
            }
            foundOne = one;
            foundOther = other;
            foundHand = hand;
            for (int i = oneSize; i >= 0; i--) {
                for (int j = otherSize; j >= 0; j--) {
                    int cell = i * SIDE + j;
                    costs[cell] = i == oneSize && j == otherSize ? 0 : ENDLESS;
                    if (i < oneSize && j < otherSize) {
                        offerBoth(shop.letters, i, j);
                    }
                    if (i < oneSize) {
                        offer(cell, cell + SIDE, shop.blank, FOR_ONE, oneGlyphs[i]);
                    }
                    if (j < otherSize) {
                        offer(cell, cell + 1, shop.blank, FOR_OTHER, otherGlyphs[j]);
                    }
                }
            }
            layOut(oneSize * SIDE + otherSize);
        }

        private void offerBoth(Alphabet letters, int i, int j) {
            if (i < 0 || i >= PLACES || j < 0 || j >= PLACES) {
                return;
            }
            int cell = i * SIDE + j;
            for (int choice = 0; choice < GLYPHS; choice++) {
                int glyph = glyphForBoth(choice, oneGlyphs[i], otherGlyphs[j]);
                int below = letters.doubtOf(foundHand, oneLetters[i], glyph);
                int above = letters.doubtOf(foundHand, otherLetters[j], Alphabet.turned(glyph, 1));
                if (below <= letters.forgive && above <= letters.forgive) {
                    offer(cell, cell + SIDE + 1, below + above, choice, glyph);
                }
            }
        }

        private static int glyphForBoth(int choice, int one, int other) {
            switch (choice) {
                case 0: return one;
                case 1: return other;
                case 2: return one | other;
                default: return one & other;
            }
        }

        /** Takes a piece only if it is better: of like ones the first that is offered stays. */
        private void offer(int cell, int next, int doubt, int choice, int glyph) {
            if (cell < 0 || cell >= next || next >= costs.length) {
                return;
            }
            int cost = costs[next] + doubt * WEIGHT + Integer.bitCount(glyph);
            if (cost < costs[cell]) {
                costs[cell] = cost;
                choices[cell] = choice;
                chosenGlyphs[cell] = glyph;
            }
        }

        private void layOut(int last) {
            int cell = 0;
            pieces = 0;
            for (int k = 0; k < 2 * PLACES && cell < last; k++) {
                int choice = choices[cell];
                owners[k] = choice < GLYPHS ? 0 : choice - GLYPHS + 1;
                pieceGlyphs[k] = chosenGlyphs[cell];
                cell += choice == FOR_ONE ? SIDE : choice == FOR_OTHER ? 1 : SIDE + 1;
                pieces++;
            }
        }

        int doubtInAll() {
            return costs[0] / WEIGHT;
        }

        int strokesInAll() {
            return costs[0] % WEIGHT;
        }

        int pieceCount() {
            return pieces;
        }

        int piecePart(int k, int what) {
            if (k < 0 || k >= pieces) {
                return NONE;
            }
            switch (what) {
                case 0: return owners[k];
                case 1: return pieceGlyphs[k];
                default: return NONE;
            }
        }
    }

    /** The boards as they are now, what is kept, and the states that acts can be undone to. */
    private static final class Wall {
        private static final int MOST_KEPT = 40;
        private static final int MOST_ACTS = 20;

        // A state is one row, so that it is kept and taken back whole.
        private static final int YEAR = 0;
        private static final int KEPT_COUNT = 1;
        private static final int KEPT = 2;
        private static final int BOARDS = KEPT + MOST_KEPT;
        private static final int BOARD_ROW = 2 + PLACES;
        private static final int GLYPHS = 2;
        private static final int SIZE = BOARDS + Shop.MOST_BOARDS * BOARD_ROW;

        private final int[] now = new int[SIZE];
        private final int[] ahead = new int[SIZE];
        private final int[][] past = new int[MOST_ACTS][SIZE];
        private int acts;
        private int nextAct;

        void hang(Shop shop) {
            begin(0);
            for (int board = 0; board < shop.boardCount; board++) {
                paintAnew(shop, board, shop.boardWords[board], shop.boardHands[board]);
            }
        }

        /** No boards, nothing kept, nothing to undo. */
        void begin(int year) {
            Arrays.fill(now, 0);
            now[YEAR] = year;
            acts = 0;
            nextAct = 0;
        }

        void paintAnew(Shop shop, int board, int word, int hand) {
            setBoard(board, word, hand);
            for (int place = 0; place < PLACES; place++) {
                setGlyph(board, place, shop.paintedGlyph(word, hand, place));
            }
        }

        private static boolean hasRow(int board) {
            return board >= 0 && board < Shop.MOST_BOARDS;
        }

        private static boolean hasCell(int board, int place) {
            return hasRow(board) && place >= 0 && place < PLACES;
        }

        void setBoard(int board, int word, int hand) {
            if (hasRow(board)) {
                now[BOARDS + board * BOARD_ROW] = word;
                now[BOARDS + board * BOARD_ROW + 1] = hand;
            }
        }

        void setGlyph(int board, int place, int glyph) {
            if (hasCell(board, place)) {
                now[BOARDS + board * BOARD_ROW + GLYPHS + place] = glyph;
            }
        }

        int yearNow() {
            return now[YEAR];
        }

        int wordOf(int board) {
            return hasRow(board) ? now[BOARDS + board * BOARD_ROW] : NONE;
        }

        int handOf(int board) {
            return hasRow(board) ? now[BOARDS + board * BOARD_ROW + 1] : NONE;
        }

        int glyphAt(int board, int place) {
            return glyphIn(now, board, place);
        }

        private static int glyphIn(int[] state, int board, int place) {
            int cell = BOARDS + board * BOARD_ROW + GLYPHS + place;
            return hasCell(board, place) && cell < state.length ? state[cell] : 0;
        }

        int strokesInAll() {
            int strokes = 0;
            for (int board = 0; board < Shop.MOST_BOARDS; board++) {
                for (int place = 0; place < PLACES; place++) {
                    strokes += Integer.bitCount(glyphAt(board, place));
                }
            }
            return strokes;
        }

        int keptCount() {
            return now[KEPT_COUNT];
        }

        int keptPart(int k, int what) {
            if (k < 0 || k >= now[KEPT_COUNT] || k >= MOST_KEPT) {
                return NONE;
            }
            int entry = now[KEPT + k];
            switch (what) {
                case 0: return entry / 64;
                case 1: return entry / 8 % 8;
                case 2: return entry % 8;
                default: return NONE;
            }
        }

        private void keep(int board, int silent) {
            if (now[KEPT_COUNT] >= MOST_KEPT) {
                System.arraycopy(now, KEPT + 1, now, KEPT, MOST_KEPT - 1);
                now[KEPT_COUNT] = MOST_KEPT - 1;
            }
            now[KEPT + now[KEPT_COUNT]] = now[YEAR] * 64 + board * 8 + silent;
            now[KEPT_COUNT]++;
        }

        int actsToUndo() {
            return acts;
        }

        void remember() {
            System.arraycopy(now, 0, past[nextAct], 0, SIZE);
            nextAct = (nextAct + 1) % MOST_ACTS;
            acts = Math.min(acts + 1, MOST_ACTS);
        }

        boolean takeBack() {
            if (acts == 0) {
                return false;
            }
            nextAct = (nextAct + MOST_ACTS - 1) % MOST_ACTS;
            acts--;
            System.arraycopy(past[nextAct], 0, now, 0, SIZE);
            return true;
        }

        /** Holds what is there, to be looked at when the year has passed. */
        void beginYear() {
            System.arraycopy(now, 0, ahead, 0, SIZE);
        }

        /** Rain upon all boards; how many strokes it took. */
        int endYear(Shop shop) {
            int lost = 0;
            for (int board = 0; board < shop.boardCount; board++) {
                for (int place = 0; place < shop.sizeOf(wordOf(board)); place++) {
                    int old = glyphAt(board, place);
                    int left = shop.washed(old, place, now[YEAR]);
                    lost += Integer.bitCount(old) - Integer.bitCount(left);
                    setGlyph(board, place, left);
                }
                keepIfChanged(shop, board);
            }
            now[YEAR]++;
            return lost;
        }

        private void keepIfChanged(Shop shop, int board) {
            int silent = 0;
            boolean worn = false;
            boolean changed = false;
            int size = shop.sizeOf(wordOf(board));
            for (int place = 0; place < size; place++) {
                worn = worn || glyphAt(board, place) != glyphIn(ahead, board, place);
            }
            // Most years leave most boards as they are, and reading is dear.
            if (!worn) {
                return;
            }
            for (int place = 0; place < size; place++) {
                int before = shop.letters.readingOf(handOf(board), glyphIn(ahead, board, place));
                int behind = shop.letters.readingOf(handOf(board), glyphAt(board, place));
                changed = changed || before != behind;
                silent += behind == 0 ? 1 : 0;
            }
            if (changed) {
                keep(board, silent);
            }
        }
    }

    /** A question and its answer so far. */
    private static final class Question {
        private static final int FIRST = 0;
        private static final int LAST = 1;
        private static final int OFTEN = 2;
        private static final int TOTAL = 3;
        private static final int MOST = 4;
        private static final int LEAST = 5;

        private final Tokens tokens;
        private final FormulaReader formulas;
        private final Program program;
        private final int[] values = new int[Program.SLOTS];
        private int kind;
        private boolean asksLines;
        private boolean begun;
        private long result;

        Question(Tokens tokens, FormulaReader formulas, Program program) {
            this.tokens = tokens;
            this.formulas = formulas;
            this.program = program;
        }

        boolean read() {
            tokens.begin();
            kind = kindHere();
            if (kind == NONE) {
                return tokens.failHere(Tokens.FAULT_TEXT);
            }
            tokens.advance();
            formulas.aim(program, FormulaReader.OF_QUESTION);
            if (kind <= OFTEN ? !formulas.test(0) : !formulas.sum(0)) {
                return false;
            }
            asksLines = program.uses(Program.LINE);
            return tokens.atEnd() || tokens.failHere(Tokens.FAULT_TEXT);
        }

        private int kindHere() {
            if (tokens.is("first")) {
                return FIRST;
            }
            if (tokens.is("last")) {
                return LAST;
            }
            if (tokens.is("often")) {
                return OFTEN;
            }
            if (tokens.is("total")) {
                return TOTAL;
            }
            if (tokens.is("most")) {
                return MOST;
            }
            return tokens.is("least") ? LEAST : NONE;
        }

        void beginAnswer() {
            begun = false;
            result = kind == FIRST || kind == LAST ? NONE : 0;
        }

        void weigh(Shop shop, int word, int year) {
            values[Program.WORD_NUMBER] = word;
            values[Program.LONG] = shop.sizeOf(word);
            values[Program.INK] = shop.inkOf(word);
            values[Program.YEAR] = year;
            for (int place = 0; place < PLACES; place++) {
                int letter = shop.letterAt(word, place);
                values[Program.FIRST_LETTER + place] = letter == 0 ? NONE : letter;
            }
            for (int other = 0; other < Shop.MOST_WORDS && asksLines; other++) {
                values[Program.FIRST_LINE + other] = other < shop.wordCount ? shop.leastDoubt(word, other) : NONE;
            }
            take(word, program.run(values));
        }

        private void take(int word, int value) {
            switch (kind) {
                case FIRST:
                    result = result == NONE && value != 0 ? word : result;
                    break;
                case LAST:
                    result = value != 0 ? word : result;
                    break;
                case OFTEN:
                case TOTAL:
                    result += value;
                    break;
                case MOST:
                    result = begun ? Math.max(result, value) : value;
                    break;
                default:
                    result = begun ? Math.min(result, value) : value;
                    break;
            }
            begun = true;
        }

        long answer() {
            return result;
        }
    }

    /** The bytes of the latest image, and how bytes are judged to be one. */
    private static final class Image {
        private static final int HEAD = 2;
        private static final int BOARD_BYTES = 2 + 2 * PLACES;
        private static final int MOST = HEAD + Shop.MOST_BOARDS * BOARD_BYTES + 1;
        private static final int FIRST_CHECK = 223;

        private final int[] bytes = new int[MOST];
        private int count;
        private int check;

        int write(Wall wall, Shop shop) {
            count = 0;
            check = FIRST_CHECK;
            addPair(wall.yearNow());
            for (int board = 0; board < shop.boardCount; board++) {
                add(wall.wordOf(board));
                add(wall.handOf(board));
                for (int place = 0; place < PLACES; place++) {
                    addPair(wall.glyphAt(board, place));
                }
            }
            add(check);
            return count;
        }

        private void addPair(int number) {
            add(number >> 8);
            add(number & 255);
        }

        private void add(int octet) {
            if (count < MOST) {
                bytes[count] = octet;
                count++;
                check = nextCheck(check, octet);
            }
        }

        private static int nextCheck(int check, int octet) {
            return (3 * check + octet) % 251;
        }

        int byteAt(int k) {
            return k >= 0 && k < count ? bytes[k] : NONE;
        }

        static boolean fits(Tape tape, Shop shop) {
            int last = HEAD + shop.boardCount * BOARD_BYTES;
            if (tape.length() != last + 1 || pairAt(tape, 0) > LAST_YEAR) {
                return false;
            }
            int check = FIRST_CHECK;
            for (int k = 0; k < last; k++) {
                check = nextCheck(check, tape.at(k));
            }
            boolean good = tape.at(last) == check;
            for (int board = 0; board < shop.boardCount && good; board++) {
                good = boardFits(tape, HEAD + board * BOARD_BYTES, shop);
            }
            return good;
        }

        private static boolean boardFits(Tape tape, int from, Shop shop) {
            int word = tape.at(from);
            int hand = tape.at(from + 1);
            if (!shop.holdsWord(word) || !isHand(hand) || !shop.canPaint(word, hand)) {
                return false;
            }
            for (int place = 0; place < PLACES; place++) {
                int most = place < shop.sizeOf(word) ? FULL_GLYPH : 0;
                if (pairAt(tape, from + 2 + 2 * place) > most) {
                    return false;
                }
            }
            return true;
        }

        private static int pairAt(Tape tape, int k) {
            return tape.at(k) * 256 + tape.at(k + 1);
        }

        static void restore(Tape tape, Wall wall, Shop shop) {
            wall.begin(pairAt(tape, 0));
            for (int board = 0; board < shop.boardCount; board++) {
                int from = HEAD + board * BOARD_BYTES;
                wall.setBoard(board, tape.at(from), tape.at(from + 1));
                for (int place = 0; place < PLACES; place++) {
                    wall.setGlyph(board, place, pairAt(tape, from + 2 + 2 * place));
                }
            }
        }
    }
}
