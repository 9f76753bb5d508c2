import java.util.ArrayList;
import java.util.List;
import java.util.Random;

/** Random runs, the same ones each time, answered by the program and by the model. */
public final class ModelTest {
    private static final int RUNS = 1500;
    private static final int CALLS = 160;
    private static final String LETTERS = "abdnopqsuxzmwhi";

    private final Random random;
    private final TurnedBoards program = new TurnedBoards();
    private final Model model = new Model();
    private final StringBuilder story = new StringBuilder();
    private boolean split;
    private int calls;

    private ModelTest(long seed) {
        random = new Random(seed);
    }

    public static void main(String[] args) {
        int runs = args.length > 0 ? Integer.parseInt(args[0]) : RUNS;
        long first = args.length > 1 ? Long.parseLong(args[1]) : 1;
        for (int run = 0; run < runs && Bench.wrongSoFar() < 5; run++) {
            new ModelTest(first + run).run();
        }
        Bench.finish();
    }

    private void run() {
        give(shopText(random.nextInt(4) == 0 ? 0 : 1));
        same("shop()", program.shop(), model.shop());
        for (int i = 0; i < CALLS && !split; i++) {
            call();
        }
        if (split) {
            System.out.println(story);
        }
    }

    private void same(String call, long got, long want) {
        calls++;
        story.append(call).append(" = ").append(got).append('\n');
        if (got != want) {
            split = true;
        }
        Bench.due("call " + calls + ", " + call, got, want);
    }

    private void same(String call, boolean got, boolean want) {
        same(call, got ? 1 : 0, want ? 1 : 0);
    }

    private int n(int bound) {
        return random.nextInt(bound);
    }

    /** A number that mostly can be, and now and then can't. */
    private int about(int bound) {
        int kind = n(40);
        if (kind == 0) {
            return -1;
        }
        if (kind == 1) {
            return bound + n(2);
        }
        if (kind == 2) {
            return random.nextBoolean() ? Integer.MIN_VALUE : Integer.MAX_VALUE;
        }
        return n(Math.max(1, bound));
    }

    private int aWord() {
        return about(model.has(2));
    }

    private int aBoard() {
        return about(model.has(3));
    }

    private int aLetter(int hand) {
        return about(hand == 0 || hand == 1 ? model.has(hand) : 3);
    }

    private int aPlace(int board) {
        return about(Math.max(1, model.board(board, 2)));
    }

    private int aGlyph() {
        int g = n(3) == 0 ? about(32768) : model.letter(n(2), n(6), 1);
        if (n(2) == 0 && g >= 0) {
            g ^= 1 << n(15);
        }
        return g;
    }

    private void give(String text) {
        byte[] bytes = Bench.bytesOf(text);
        story.append("<< ").append(text.replace('\n', '~')).append('\n');
        for (int from = 0; from < bytes.length; from += 20) {
            int[] f = Bench.feedOf(bytes, from);
            same("feed()", program.feed(f[0], f[1], f[2], f[3], f[4]), model.feed(f[0], f[1], f[2], f[3], f[4]));
        }
        same("end(" + bytes.length + ")", program.end(bytes.length), model.end(bytes.length));
    }

    private void call() {
        int kind = n(34);
        if (kind < 8) {
            look(kind);
        } else if (kind < 13) {
            readSome(kind);
        } else if (kind < 20) {
            lines(kind);
        } else if (kind < 28) {
            acts(kind);
        } else {
            texts(kind);
        }
    }

    private void look(int kind) {
        switch (kind) {
            case 0: {
                int w = about(2);
                same("fault(" + w + ")", program.fault(w), model.fault(w));
                break;
            }
            case 1: {
                int w = about(8);
                same("has(" + w + ")", program.has(w), model.has(w));
                break;
            }
            case 2: {
                int h = about(2);
                int k = aLetter(h);
                int w = about(3);
                same("letter(" + h + ", " + k + ", " + w + ")", program.letter(h, k, w), model.letter(h, k, w));
                break;
            }
            case 3: {
                int w = aWord();
                int k = about(6);
                same("word(" + w + ", " + k + ")", program.word(w, k), model.word(w, k));
                break;
            }
            case 4: {
                int b = aBoard();
                int w = about(3);
                same("board(" + b + ", " + w + ")", program.board(b, w), model.board(b, w));
                break;
            }
            case 5: {
                int b = aBoard();
                int p = aPlace(b);
                same("glyph(" + b + ", " + p + ")", program.glyph(b, p), model.glyph(b, p));
                break;
            }
            case 6: {
                int k = about(model.has(6));
                int w = about(3);
                same("kept(" + k + ", " + w + ")", program.kept(k, w), model.kept(k, w));
                break;
            }
            default: {
                int w = about(6);
                same("status(" + w + ")", program.status(w), model.status(w));
                break;
            }
        }
    }

    private void readSome(int kind) {
        int how = about(4);
        int h = about(2);
        switch (kind) {
            case 8: {
                int g = about(32768);
                same("seen(" + g + ", " + how + ")", program.seen(g, how), model.seen(g, how));
                break;
            }
            case 9: {
                int k = aLetter(h);
                int g = aGlyph();
                same("doubt(" + h + ", " + k + ", " + g + ")", program.doubt(h, k, g), model.doubt(h, k, g));
                break;
            }
            case 10: {
                int g = aGlyph();
                same("reads(" + h + ", " + g + ", " + how + ")", program.reads(h, g, how), model.reads(h, g, how));
                break;
            }
            case 11: {
                int b = aBoard();
                int y = n(2) == 0 ? n(5) : about(61);
                int k = aPlace(b);
                same("says(" + b + ", " + how + ", " + y + ", " + k + ")", program.says(b, how, y, k),
                        model.says(b, how, y, k));
                break;
            }
            default: {
                int w = aWord();
                same("becomes(" + w + ", " + h + ", " + how + ")", program.becomes(w, h, how),
                        model.becomes(w, h, how));
                break;
            }
        }
    }

    private void lines(int kind) {
        int one = aWord();
        int other = aWord();
        int h = about(2);
        int b = aBoard();
        switch (kind) {
            case 13: {
                int w = about(3);
                same("line(" + one + ", " + other + ", " + h + ", " + w + ")", program.line(one, other, h, w),
                        model.line(one, other, h, w));
                break;
            }
            case 14: {
                int k = about(4);
                int w = about(2);
                same("piece(" + one + ", " + other + ", " + h + ", " + k + ", " + w + ")",
                        program.piece(one, other, h, k, w), model.piece(one, other, h, k, w));
                break;
            }
            case 15:
                same("best(" + one + ")", program.best(one), model.best(one));
                break;
            case 16:
                same("hand(" + one + ", " + other + ")", program.hand(one, other), model.hand(one, other));
                break;
            case 17:
                same("been(" + b + ")", program.been(b), model.been(b));
                break;
            case 18:
                same("lasts(" + b + ")", program.lasts(b), model.lasts(b));
                break;
            default: {
                int p = aPlace(b);
                int k = aLetter(model.board(b, 1));
                same("mend(" + b + ", " + p + ", " + k + ")", program.mend(b, p, k), model.mend(b, p, k));
                break;
            }
        }
    }

    private void acts(int kind) {
        int b = aBoard();
        switch (kind) {
            case 20: {
                int y = n(4) == 0 ? about(101) : 1 + n(4);
                same("years(" + y + ")", program.years(y), model.years(y));
                break;
            }
            case 21: {
                int y = n(4) == 0 ? about(101) : 1 + n(4);
                same("chance(" + y + ")", program.chance(y), model.chance(y));
                break;
            }
            case 22:
            case 23:
            case 24: {
                int p = aPlace(b);
                int bit = about(15);
                int on = about(2);
                same("stroke(" + b + ", " + p + ", " + bit + ", " + on + ")", program.stroke(b, p, bit, on),
                        model.stroke(b, p, bit, on));
                break;
            }
            case 25: {
                int w = aWord();
                int h = about(2);
                same("paint(" + b + ", " + w + ", " + h + ")", program.paint(b, w, h), model.paint(b, w, h));
                break;
            }
            case 26: {
                for (int i = 1 + n(n(4) == 0 ? 23 : 2); i > 0; i--) {
                    same("undo()", program.undo(), model.undo());
                }
                break;
            }
            default: {
                int s = n(4) == 0 ? about(1000) : random.nextInt();
                same("seed(" + s + ")", program.seed(s), model.seed(s));
                break;
            }
        }
    }

    private void texts(int kind) {
        switch (kind) {
            case 28:
                if (n(3) == 0) {
                    give(shopText(n(3)));
                    same("shop()", program.shop(), model.shop());
                    faults();
                }
                break;
            case 29:
                same("image()", program.image(), model.image());
                break;
            case 30: {
                int k = about(60);
                same("octet(" + k + ")", program.octet(k), model.octet(k));
                break;
            }
            case 31:
                if (n(3) == 0) {
                    give(imageText());
                    same("on()", program.on(), model.on());
                }
                break;
            default:
                give(questionText(n(3) == 0 ? 1 : 0));
                same("ask()", program.ask(), model.ask());
                faults();
                break;
        }
    }

    private void faults() {
        same("fault(0)", program.fault(0), model.fault(0));
        same("fault(1)", program.fault(1), model.fault(1));
    }

    /** An image of the present state, often changed, its last byte mostly made good again. */
    private String imageText() {
        int size = model.image();
        same("image()", program.image(), size);
        int[] b = new int[size];
        for (int k = 0; k < size; k++) {
            b[k] = model.octet(k);
        }
        for (int i = n(3); i > 0; i--) {
            int at = n(size);
            b[at] = at == 0 ? n(5) : n(2) == 0 ? n(3) : n(256);
        }
        if (n(8) != 0) {
            int c = 223;
            for (int k = 0; k + 1 < size; k++) {
                c = (3 * c + b[k]) % 251;
            }
            b[size - 1] = c;
        }
        StringBuilder text = new StringBuilder();
        for (int k = 0; k < (n(12) == 0 ? size - 1 : size); k++) {
            text.append((char) b[k]);
        }
        return text.toString();
    }

    // ---- texts by chance

    private String questionText(int mistakes) {
        List<String> t = new ArrayList<>();
        String[] kinds = {"first", "last", "often", "total", "most", "least"};
        int kind = n(6);
        t.add(kinds[kind]);
        String[] parts = {"number", "long", "ink", "year"};
        if (kind < 3) {
            test(t, parts, true, n(5));
        } else {
            sum(t, parts, true, n(5));
        }
        return spoil(t, mistakes);
    }

    private String shopText(int mistakes) {
        List<String> t = new ArrayList<>();
        String told = "";
        int letters = 1 + n(n(6) == 0 ? 14 : 6);
        for (int i = 0; i < letters; i++) {
            char c = LETTERS.charAt(n(8) == 0 ? n(LETTERS.length()) : i % LETTERS.length());
            boolean again = told.indexOf(c) >= 0 && n(20) != 0;
            if (!again) {
                letter(t, c, 0);
                told += c;
                if (n(4) != 0) {
                    letter(t, c, 1);
                }
            }
            settings(t);
        }
        List<String> words = new ArrayList<>();
        for (int i = n(6) == 0 ? n(12) : 2 + n(5); i > 0; i--) {
            StringBuilder w = new StringBuilder();
            for (int k = 1 + n(n(5) == 0 ? 6 : 4); k > 0; k--) {
                w.append(told.charAt(n(told.length())));
            }
            if (!words.contains(w.toString()) || n(20) == 0) {
                words.add(w.toString());
                add(t, "word " + w);
            }
        }
        for (int i = words.isEmpty() ? 0 : n(6) == 0 ? n(6) : 1 + n(4); i > 0; i--) {
            add(t, "board " + words.get(n(words.size())) + " hand " + (n(5) == 0 ? 1 : 0));
        }
        for (int i = 0; i < 4; i++) {
            settings(t);
        }
        if (n(3) != 0) {
            t.add("rain");
            test(t, new String[] {"column", "row", "place", "near", "year"}, false, n(4));
            t.add(";");
        }
        if (n(2) == 0) {
            t.add("doubt");
            sum(t, new String[] {"more", "less", "ink"}, false, n(4));
            t.add(";");
        }
        return spoil(t, n(3) == 0 ? mistakes : 0);
    }

    private void add(List<String> t, String statement) {
        for (String s : statement.split(" ")) {
            t.add(s);
        }
        t.add(";");
    }

    private void letter(List<String> t, char c, int hand) {
        StringBuilder s = new StringBuilder("letter " + c + " hand " + hand + " is");
        int odd = n(12);
        for (int r = 0; r < 5; r++) {
            s.append(' ').append(odd == 0 ? 7 : n(8));
        }
        add(t, s.toString());
    }

    private void settings(List<String> t) {
        switch (n(12)) {
            case 0: add(t, "forgive " + n(n(4) == 0 ? 100 : 8)); break;
            case 1: add(t, "blank " + n(n(4) == 0 ? 100 : 12)); break;
            case 2: add(t, "hail " + n(101)); break;
            default: break;
        }
    }

    private void test(List<String> t, String[] parts, boolean asks, int depth) {
        both(t, parts, asks, depth);
        while (n(4) == 0) {
            t.add("or");
            both(t, parts, asks, depth);
        }
    }

    private void both(List<String> t, String[] parts, boolean asks, int depth) {
        fact(t, parts, asks, depth);
        while (n(4) == 0) {
            t.add("and");
            fact(t, parts, asks, depth);
        }
    }

    private void fact(List<String> t, String[] parts, boolean asks, int depth) {
        int kind = n(depth > 0 ? 8 : 5);
        if (n(40) == 0) {
            deepFact(t, parts, asks);
        } else if (kind == 0 && n(3) == 0) {
            t.add("all");
        } else if (kind == 5) {
            t.add("not");
            fact(t, parts, asks, depth - 1);
        } else if (kind == 6) {
            t.add("[");
            test(t, parts, asks, depth - 1);
            t.add("]");
        } else {
            sum(t, parts, asks, depth - 1);
            t.add("<>=".substring(n(3)).substring(0, 1));
            sum(t, parts, asks, depth - 1);
        }
    }

    /** About as many openings as may be, and now and then more. */
    private void deepFact(List<String> t, String[] parts, boolean asks) {
        List<String> closing = new ArrayList<>();
        for (int k = 3 + n(5); k > 0; k--) {
            boolean not = n(2) == 0;
            t.add(not ? "not" : "[");
            if (!not) {
                closing.add("]");
            }
        }
        fact(t, parts, asks, 1);
        t.addAll(closing);
    }

    private void deepPart(List<String> t, String[] parts, boolean asks) {
        List<String> closing = new ArrayList<>();
        for (int k = 3 + n(5); k > 0; k--) {
            int kind = n(asks ? 4 : 2);
            t.add(kind == 0 ? "(" : kind == 1 ? "max" : kind == 2 ? "line" : "at");
            if (kind == 1) {
                t.add("(");
                t.add(String.valueOf(n(9)));
                t.add(",");
            }
            if (kind < 2) {
                closing.add(")");
            }
        }
        part(t, parts, asks, 1);
        t.addAll(closing);
    }

    private void sum(List<String> t, String[] parts, boolean asks, int depth) {
        part(t, parts, asks, depth);
        while (n(3) == 0) {
            t.add("+-*/".substring(n(4)).substring(0, 1));
            part(t, parts, asks, depth);
        }
    }

    private void part(List<String> t, String[] parts, boolean asks, int depth) {
        int kind = n(depth > 0 ? 8 : 4);
        if (n(60) == 0) {
            deepPart(t, parts, asks);
        } else if (asks && n(8) == 0 || kind == 7 && asks) {
            t.add(n(2) == 0 ? "line" : "at");
            part(t, parts, true, depth - 1);
        } else if (kind < 2) {
            t.add(parts[n(parts.length)]);
        } else if (kind < 4) {
            t.add(String.valueOf(n(n(6) == 0 ? 10000 : 5)));
        } else if (kind == 4) {
            t.add(n(2) == 0 ? "min" : "max");
            t.add("(");
            sum(t, parts, asks, depth - 1);
            t.add(",");
            sum(t, parts, asks, depth - 1);
            t.add(")");
        } else {
            t.add("(");
            sum(t, parts, asks, depth - 1);
            t.add(")");
        }
    }

    private String spoil(List<String> tokens, int mistakes) {
        List<String> t = new ArrayList<>(tokens);
        String[] odd = {"(", "[", "not", "or", ";", "7", "12345", "100", "line", "at", "hand", "letter", "word", "x",
            "zzzzzzz", "abcdefghij", "=", "+", "all", "A", "\t", "00", "min", "rain", "doubt", "board", "2", "1", "\u00e9"};
        for (int i = 0; i < mistakes; i++) {
            int at = n(t.size());
            switch (n(4)) {
                case 0: t.remove(at); break;
                case 1: t.set(at, odd[n(odd.length)]); break;
                case 2: t.add(at, odd[n(odd.length)]); break;
                default: {
                    for (int k = n(9); k > 0; k--) {
                        t.add(at, n(3) == 0 ? "[" : n(2) == 0 ? "(" : "not");
                    }
                    break;
                }
            }
            if (t.isEmpty()) {
                t.add(";");
            }
        }
        StringBuilder s = new StringBuilder();
        String last = "";
        for (String token : t) {
            boolean needs = !last.isEmpty() && Character.isLetterOrDigit(last.charAt(last.length() - 1))
                    && Character.isLetterOrDigit(token.charAt(0));
            if (needs ? mistakes == 0 || n(60) != 0 : n(5) == 0) {
                s.append(n(6) == 0 ? '\n' : ' ');
            }
            s.append(token);
            last = token;
        }
        if (mistakes > 0 && n(6) == 0) {
            s.setLength(n(s.length() + 1));
        }
        return s.length() > 1600 ? s.substring(0, 1600) : s.toString();
    }
}
