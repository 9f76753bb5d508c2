import java.util.ArrayDeque;
import java.util.ArrayList;
import java.util.Arrays;
import java.util.Deque;
import java.util.HashMap;
import java.util.HashSet;
import java.util.List;
import java.util.Map;
import java.util.Set;

/**
 * The document read a second time, as plainly and slowly as can be: trees of functions, grids of booleans,
 * all lines tried one by one. ModelTest compares its answers with the program's.
 */
final class Model {
    static final int NONE = -1;
    static final long NOTHING = -1000000000000000L;
    static final Set<String> OWN = new HashSet<>(Arrays.asList(("letter hand is word board doubt rain blank hail more "
            + "less ink column row place near year number long line at or and not all min max forgive").split(" ")));

    interface Formula {
        long of(Map<String, Integer> values);
    }

    static final class Fault extends RuntimeException {
        private static final long serialVersionUID = 1L;
        final int kind;
        final int place;

        Fault(int kind, int place) {
            this.kind = kind;
            this.place = place;
        }
    }

    static final class Letter {
        char name;
        int glyph;
    }

    static final class Told {
        int statements;
        final List<List<Letter>> letters = List.of(new ArrayList<>(), new ArrayList<>());
        final List<String> words = new ArrayList<>();
        final List<int[]> boards = new ArrayList<>();
        Formula doubt;
        Formula rain;
        int forgive = 2;
        int blank = 9;
        int hail;

        Letter find(int hand, char name) {
            for (Letter l : letters.get(hand)) {
                if (l.name == name) {
                    return l;
                }
            }
            return null;
        }

        boolean paintable(String word, int hand) {
            for (char c : word.toCharArray()) {
                if (find(hand, c) == null) {
                    return false;
                }
            }
            return true;
        }
    }

    static final class Sign {
        int word;
        int hand;
        int[] glyphs;

        Sign copy() {
            Sign s = new Sign();
            s.word = word;
            s.hand = hand;
            s.glyphs = glyphs.clone();
            return s;
        }
    }

    static final class State {
        int year;
        List<Sign> signs = new ArrayList<>();
        List<int[]> kept = new ArrayList<>();

        State copy() {
            State s = new State();
            s.year = year;
            for (Sign sign : signs) {
                s.signs.add(sign.copy());
            }
            s.kept.addAll(kept);
            return s;
        }
    }

    private final List<Integer> tape = new ArrayList<>();
    private Told told = new Told();
    private State state = new State();
    private final Deque<State> past = new ArrayDeque<>();
    private int[] lastImage = new int[0];
    private final int[] refused = new int[6];
    private int faultKind;
    private int faultPlace = NONE;
    private long x = 1;

    // ---- texts

    private static final class Text {
        final String s;
        int i;
        boolean behindWord;

        Text(String s) {
            this.s = s;
        }

        static boolean wordly(char c) {
            return c >= 'a' && c <= 'z';
        }

        static boolean digit(char c) {
            return c >= '0' && c <= '9';
        }

        /** The next thing, whole; empty at the end. It stays where it is. */
        String peek() {
            int j = i;
            while (j < s.length() && (s.charAt(j) == ' ' || s.charAt(j) == '\n')) {
                j++;
            }
            if (j > i) {
                behindWord = false;
            }
            i = j;
            if (j == s.length()) {
                return "";
            }
            int k = j;
            if (wordly(s.charAt(j))) {
                while (k < s.length() && wordly(s.charAt(k))) {
                    k++;
                }
            } else if (digit(s.charAt(j))) {
                while (k < s.length() && digit(s.charAt(k))) {
                    k++;
                }
            } else {
                return s.substring(j, j + 1);
            }
            if (behindWord) {
                throw new Fault(1, j);
            }
            return s.substring(j, k);
        }

        void pass() {
            String t = peek();
            i += t.length();
            behindWord = Text.wordly(t.charAt(0)) || Text.digit(t.charAt(0));
        }

        boolean next(String t) {
            if (peek().equals(t)) {
                pass();
                return true;
            }
            return false;
        }

        void want(String t) {
            if (!next(t)) {
                throw new Fault(1, i);
            }
        }

        int number(int most) {
            String t = peek();
            if (t.isEmpty() || !digit(t.charAt(0))) {
                throw new Fault(1, i);
            }
            if (t.length() > 4) {
                throw new Fault(1, i + 4);
            }
            if (Integer.parseInt(t) > most) {
                throw new Fault(2, i);
            }
            pass();
            return Integer.parseInt(t);
        }

        String name(int most) {
            String t = peek();
            if (t.isEmpty() || !wordly(t.charAt(0)) || OWN.contains(t)) {
                throw new Fault(1, i);
            }
            if (t.length() > most) {
                throw new Fault(1, i + most);
            }
            return t;
        }
    }

    private static long cut(long v) {
        return v > 1000000 ? 1000000 : v < -1000000 ? -1000000 : v;
    }

    private final class Grammar {
        final Text t;
        final Set<String> parts;
        final boolean looks;
        int open;

        Grammar(Text t, String parts, boolean looks) {
            this.t = t;
            this.parts = new HashSet<>(Arrays.asList(parts.split(" ")));
            this.looks = looks;
        }

        void opening() {
            if (open == 6) {
                throw new Fault(4, t.i);
            }
            open++;
            t.pass();
        }

        Formula test() {
            Formula a = both();
            while (t.next("or")) {
                Formula l = a;
                Formula r = both();
                a = v -> l.of(v) != 0 || r.of(v) != 0 ? 1 : 0;
            }
            return a;
        }

        Formula both() {
            Formula a = fact();
            while (t.next("and")) {
                Formula l = a;
                Formula r = fact();
                a = v -> l.of(v) != 0 && r.of(v) != 0 ? 1 : 0;
            }
            return a;
        }

        Formula fact() {
            switch (t.peek()) {
                case "not": {
                    opening();
                    Formula f = fact();
                    open--;
                    return v -> f.of(v) != 0 ? 0 : 1;
                }
                case "[": {
                    opening();
                    Formula f = test();
                    t.want("]");
                    open--;
                    return f;
                }
                case "all":
                    t.pass();
                    return v -> 1;
                default:
                    break;
            }
            Formula l = sum();
            String sign = t.peek();
            if (!sign.equals("<") && !sign.equals(">") && !sign.equals("=")) {
                throw new Fault(1, t.i);
            }
            t.pass();
            Formula r = sum();
            return v -> {
                int c = Long.compare(l.of(v), r.of(v));
                return (sign.equals("<") ? c < 0 : sign.equals(">") ? c > 0 : c == 0) ? 1 : 0;
            };
        }

        Formula sum() {
            Formula a = product();
            while (true) {
                Formula l = a;
                if (t.next("+")) {
                    Formula r = product();
                    a = v -> cut(l.of(v) + r.of(v));
                } else if (t.next("-")) {
                    Formula r = product();
                    a = v -> cut(l.of(v) - r.of(v));
                } else {
                    return a;
                }
            }
        }

        Formula product() {
            Formula a = part();
            while (true) {
                Formula l = a;
                if (t.next("*")) {
                    Formula r = part();
                    a = v -> cut(l.of(v) * r.of(v));
                } else if (t.next("/")) {
                    Formula r = part();
                    a = v -> r.of(v) == 0 ? 0 : (long) Math.floor((double) l.of(v) / (double) r.of(v));
                } else {
                    return a;
                }
            }
        }

        Formula part() {
            String p = t.peek();
            if (!p.isEmpty() && Text.digit(p.charAt(0))) {
                int n = t.number(9999);
                return v -> n;
            }
            if (p.equals("(")) {
                opening();
                Formula f = sum();
                t.want(")");
                open--;
                return f;
            }
            if (p.equals("min") || p.equals("max")) {
                t.pass();
                if (!t.peek().equals("(")) {
                    throw new Fault(1, t.i);
                }
                opening();
                Formula l = sum();
                t.want(",");
                Formula r = sum();
                t.want(")");
                open--;
                return p.equals("min") ? v -> Math.min(l.of(v), r.of(v)) : v -> Math.max(l.of(v), r.of(v));
            }
            if (looks && (p.equals("line") || p.equals("at"))) {
                opening();
                Formula f = part();
                open--;
                if (p.equals("at")) {
                    return v -> {
                        String w = told.words.get(v.get("number"));
                        long k = f.of(v);
                        return k < 0 || k >= w.length() ? -1 : w.charAt((int) k) - 'a' + 1;
                    };
                }
                return v -> {
                    long k = f.of(v);
                    return k < 0 || k >= told.words.size() ? -1 : line(v.get("number"), (int) k, 0, 0);
                };
            }
            if (parts.contains(p)) {
                t.pass();
                return v -> v.get(p);
            }
            throw new Fault(1, t.i);
        }
    }

    private Told readShop(String s) {
        Told d = new Told();
        Text t = new Text(s);
        while (!t.peek().isEmpty()) {
            if (d.statements == 60) {
                throw new Fault(5, t.i);
            }
            statement(d, t);
            t.want(";");
            d.statements++;
        }
        if (d.doubt == null) {
            d.doubt = v -> v.get("more") + 2 * v.get("less");
        }
        if (d.rain == null) {
            d.rain = v -> 0;
        }
        return d;
    }

    private void statement(Told d, Text t) {
        String key = t.peek();
        int at = t.i;
        switch (key) {
            case "letter": {
                t.pass();
                char name = t.name(1).charAt(0);
                t.pass();
                t.want("hand");
                t.peek();
                int where = t.i;
                int hand = t.number(1);
                if (d.letters.get(hand).size() == 12) {
                    throw new Fault(5, where);
                }
                if (d.find(hand, name) != null) {
                    throw new Fault(2, where);
                }
                t.want("is");
                Letter l = new Letter();
                l.name = name;
                boolean[][] g = new boolean[5][3];
                for (int r = 0; r < 5; r++) {
                    int n = t.number(7);
                    g[r][0] = n / 4 % 2 == 1;
                    g[r][1] = n / 2 % 2 == 1;
                    g[r][2] = n % 2 == 1;
                }
                l.glyph = pack(g);
                d.letters.get(hand).add(l);
                break;
            }
            case "word": {
                if (d.words.size() == 8) {
                    throw new Fault(5, at);
                }
                t.pass();
                String name = t.name(6);
                if (d.words.contains(name) || !d.paintable(name, 0)) {
                    throw new Fault(3, t.i);
                }
                t.pass();
                d.words.add(name);
                break;
            }
            case "board": {
                if (d.boards.size() == 4) {
                    throw new Fault(5, at);
                }
                t.pass();
                String name = t.name(6);
                if (!d.words.contains(name)) {
                    throw new Fault(3, t.i);
                }
                t.pass();
                t.want("hand");
                t.peek();
                int where = t.i;
                int hand = t.number(1);
                if (!d.paintable(name, hand)) {
                    throw new Fault(2, where);
                }
                d.boards.add(new int[] {d.words.indexOf(name), hand});
                break;
            }
            case "doubt":
                if (d.doubt != null) {
                    throw new Fault(5, at);
                }
                t.pass();
                d.doubt = new Grammar(t, "more less ink", false).sum();
                break;
            case "rain":
                if (d.rain != null) {
                    throw new Fault(5, at);
                }
                t.pass();
                d.rain = new Grammar(t, "column row place near year", false).test();
                break;
            case "forgive":
                t.pass();
                d.forgive = t.number(99);
                break;
            case "blank":
                t.pass();
                d.blank = t.number(99);
                break;
            case "hail":
                t.pass();
                d.hail = t.number(100);
                break;
            default:
                throw new Fault(1, at);
        }
    }

    // ---- glyphs

    private static int pack(boolean[][] g) {
        int n = 0;
        for (int r = 0; r < 5; r++) {
            for (int c = 0; c < 3; c++) {
                n += g[r][c] ? 1 << 3 * r + c : 0;
            }
        }
        return n;
    }

    private static boolean[][] grid(int glyph) {
        boolean[][] g = new boolean[5][3];
        for (int b = 0; b < 15; b++) {
            g[b / 3][b % 3] = (glyph >> b) % 2 == 1;
        }
        return g;
    }

    private static int look(int glyph, int how) {
        boolean[][] g = grid(glyph);
        boolean[][] s = new boolean[5][3];
        for (int r = 0; r < 5; r++) {
            for (int c = 0; c < 3; c++) {
                switch (how) {
                    case 0: s[r][c] = g[r][c]; break;
                    case 1: s[4 - r][2 - c] = g[r][c]; break;
                    case 2: s[4 - r][c] = g[r][c]; break;
                    default: s[r][2 - c] = g[r][c]; break;
                }
            }
        }
        return pack(s);
    }

    private static int count(int glyph) {
        int n = 0;
        for (boolean[] row : grid(glyph)) {
            for (boolean b : row) {
                n += b ? 1 : 0;
            }
        }
        return n;
    }

    private long doubtAs(Letter l, int glyph) {
        Map<String, Integer> v = new HashMap<>();
        int both = 0;
        for (int b = 0; b < 15; b++) {
            both += (l.glyph >> b & glyph >> b & 1) == 1 ? 1 : 0;
        }
        v.put("more", count(glyph) - both);
        v.put("less", count(l.glyph) - both);
        v.put("ink", count(l.glyph));
        long d = told.doubt.of(v);
        return d < 0 ? 0 : d;
    }

    private int read(int hand, int glyph) {
        Letter found = null;
        for (Letter l : told.letters.get(hand)) {
            if (found == null || doubtAs(l, glyph) < doubtAs(found, glyph)) {
                found = l;
            }
        }
        return found == null || doubtAs(found, glyph) > told.forgive ? 0 : found.name - 'a' + 1;
    }

    private int[] saying(Sign s, int how) {
        int n = s.glyphs.length;
        int[] out = new int[n];
        for (int k = 0; k < n; k++) {
            out[k] = read(s.hand, look(s.glyphs[how % 2 == 0 ? k : n - 1 - k], how));
        }
        return out;
    }

    private int[] painted(int word, int hand) {
        String w = told.words.get(word);
        int[] g = new int[w.length()];
        for (int k = 0; k < g.length; k++) {
            g[k] = told.find(hand, w.charAt(k)).glyph;
        }
        return g;
    }

    private int rainOn(List<Sign> signs, int year) {
        int lost = 0;
        for (Sign s : signs) {
            for (int p = 0; p < s.glyphs.length; p++) {
                boolean[][] g = grid(s.glyphs[p]);
                boolean[][] left = grid(s.glyphs[p]);
                for (int r = 0; r < 5; r++) {
                    for (int c = 0; c < 3; c++) {
                        if (!g[r][c]) {
                            continue;
                        }
                        Map<String, Integer> v = new HashMap<>();
                        v.put("row", r);
                        v.put("column", c);
                        v.put("place", p);
                        v.put("year", year);
                        v.put("near", (r > 0 && g[r - 1][c] ? 1 : 0) + (r < 4 && g[r + 1][c] ? 1 : 0)
                                + (c > 0 && g[r][c - 1] ? 1 : 0) + (c < 2 && g[r][c + 1] ? 1 : 0));
                        if (told.rain.of(v) != 0) {
                            left[r][c] = false;
                            lost++;
                        }
                    }
                }
                s.glyphs[p] = pack(left);
            }
        }
        return lost;
    }

    // ---- the face

    int feed(int a, int b, int c, int d, int e) {
        if (tape.size() > 1580) {
            refused[0]++;
            return NONE;
        }
        for (int n : new int[] {a, b, c, d, e}) {
            tape.add(n >>> 24);
            tape.add(n >>> 16 & 255);
            tape.add(n >>> 8 & 255);
            tape.add(n & 255);
        }
        return tape.size();
    }

    boolean end(int n) {
        if (n < 0 || n > tape.size()) {
            refused[0]++;
            return false;
        }
        while (tape.size() > n) {
            tape.remove(tape.size() - 1);
        }
        return true;
    }

    private String takeTape() {
        StringBuilder b = new StringBuilder();
        for (int n : tape) {
            b.append((char) n);
        }
        tape.clear();
        return b.toString();
    }

    int shop() {
        try {
            faultKind = 0;
            faultPlace = NONE;
            told = readShop(takeTape());
        } catch (Fault f) {
            faultKind = f.kind;
            faultPlace = f.place;
            refused[1]++;
            return NONE;
        }
        past.clear();
        state = new State();
        for (int[] b : told.boards) {
            Sign s = new Sign();
            s.word = b[0];
            s.hand = b[1];
            s.glyphs = painted(b[0], b[1]);
            state.signs.add(s);
        }
        return told.statements;
    }

    int fault(int what) {
        return what == 0 ? faultKind : what == 1 ? faultPlace : NONE;
    }

    int has(int what) {
        switch (what) {
            case 0: return told.letters.get(0).size();
            case 1: return told.letters.get(1).size();
            case 2: return told.words.size();
            case 3: return told.boards.size();
            case 4: return state.year;
            case 5: {
                int n = 0;
                for (Sign s : state.signs) {
                    for (int g : s.glyphs) {
                        n += count(g);
                    }
                }
                return n;
            }
            case 6: return Math.min(40, state.kept.size());
            case 7: return past.size();
            default: return NONE;
        }
    }

    private boolean handOk(int hand) {
        return hand == 0 || hand == 1;
    }

    private boolean letterOk(int hand, int k) {
        return handOk(hand) && k >= 0 && k < told.letters.get(hand).size();
    }

    private boolean wordOk(int w) {
        return w >= 0 && w < told.words.size();
    }

    private boolean boardOk(int b) {
        return b >= 0 && b < state.signs.size();
    }

    private boolean placeOk(int b, int p) {
        return boardOk(b) && p >= 0 && p < state.signs.get(b).glyphs.length;
    }

    private static boolean glyphOk(int g) {
        return g >= 0 && g < 32768;
    }

    private static boolean howOk(int h) {
        return h >= 0 && h < 4;
    }

    int letter(int hand, int k, int what) {
        if (!letterOk(hand, k)) {
            return NONE;
        }
        Letter l = told.letters.get(hand).get(k);
        return what == 0 ? l.name - 'a' + 1 : what == 1 ? l.glyph : what == 2 ? count(l.glyph) : NONE;
    }

    int word(int w, int k) {
        if (!wordOk(w) || k < 0 || k > 5) {
            return NONE;
        }
        String s = told.words.get(w);
        return k < s.length() ? s.charAt(k) - 'a' + 1 : 0;
    }

    int board(int b, int what) {
        if (!boardOk(b)) {
            return NONE;
        }
        Sign s = state.signs.get(b);
        return what == 0 ? s.word : what == 1 ? s.hand : what == 2 ? s.glyphs.length : NONE;
    }

    int glyph(int b, int p) {
        return placeOk(b, p) ? state.signs.get(b).glyphs[p] : NONE;
    }

    int kept(int k, int what) {
        int n = state.kept.size();
        int first = Math.max(0, n - 40);
        return k < 0 || first + (long) k >= n || what < 0 || what > 2 ? NONE : state.kept.get(first + k)[what];
    }

    int seen(int g, int how) {
        return glyphOk(g) && howOk(how) ? look(g, how) : NONE;
    }

    long doubt(int hand, int k, int g) {
        return letterOk(hand, k) && glyphOk(g) ? doubtAs(told.letters.get(hand).get(k), g) : NOTHING;
    }

    int reads(int hand, int g, int how) {
        return handOk(hand) && glyphOk(g) && howOk(how) ? read(hand, look(g, how)) : NONE;
    }

    int says(int b, int how, int n, int k) {
        if (!placeOk(b, k) || !howOk(how) || n < 0 || n > 60 || state.year + n > 999) {
            return NONE;
        }
        State s = state.copy();
        for (int i = 0; i < n; i++) {
            rainOn(s.signs, s.year);
            s.year++;
        }
        return saying(s.signs.get(b), how)[k];
    }

    int becomes(int w, int hand, int how) {
        if (!wordOk(w) || !handOk(hand) || !howOk(how) || !told.paintable(told.words.get(w), hand)) {
            return NONE;
        }
        Sign s = new Sign();
        s.hand = hand;
        s.glyphs = painted(w, hand);
        StringBuilder b = new StringBuilder();
        for (int l : saying(s, how)) {
            b.append((char) (l + 'a' - 1));
        }
        return told.words.indexOf(b.toString());
    }

    /** The first of the best rows of pieces {whom, glyph}, tried in the document's order; ahead of it doubt, strokes. */
    private List<int[]> leastLine(int one, int other, int hand) {
        List<List<int[]>> best = new ArrayList<>();
        best.add(null);
        tryLines(told.words.get(one), told.words.get(other), hand, new ArrayList<>(), new int[4], best);
        return best.get(0);
    }

    private void tryLines(String one, String other, int hand, List<int[]> row, int[] at, List<List<int[]>> best) {
        List<int[]> top = best.get(0);
        if (top != null && (at[2] > top.get(0)[0] || at[2] == top.get(0)[0] && at[3] >= top.get(0)[1])) {
            return;
        }
        if (at[0] == one.length() && at[1] == other.length()) {
            List<int[]> done = new ArrayList<>();
            done.add(new int[] {at[2], at[3]});
            done.addAll(row);
            best.set(0, done);
            return;
        }
        Letter a = at[0] < one.length() ? told.find(hand, one.charAt(at[0])) : null;
        Letter b = at[1] < other.length() ? told.find(hand, other.charAt(other.length() - 1 - at[1])) : null;
        if (a != null && b != null) {
            int t = look(b.glyph, 1);
            for (int g : new int[] {a.glyph, t, a.glyph | t, a.glyph & t}) {
                long da = doubtAs(a, g);
                long db = doubtAs(b, look(g, 1));
                if (da <= told.forgive && db <= told.forgive) {
                    step(one, other, hand, row, at, best, new int[] {0, g, (int) (da + db)});
                }
            }
        }
        if (a != null) {
            step(one, other, hand, row, at, best, new int[] {1, a.glyph, told.blank});
        }
        if (b != null) {
            step(one, other, hand, row, at, best, new int[] {2, look(b.glyph, 1), told.blank});
        }
    }

    private void step(String one, String other, int hand, List<int[]> row, int[] at, List<List<int[]>> best, int[] p) {
        row.add(p);
        int[] next = {at[0] + (p[0] == 2 ? 0 : 1), at[1] + (p[0] == 1 ? 0 : 1), at[2] + p[2], at[3] + count(p[1])};
        tryLines(one, other, hand, row, next, best);
        row.remove(row.size() - 1);
    }

    private boolean lineOk(int one, int other, int hand) {
        return wordOk(one) && wordOk(other) && handOk(hand) && told.paintable(told.words.get(one), hand)
                && told.paintable(told.words.get(other), hand);
    }

    int line(int one, int other, int hand, int what) {
        if (!lineOk(one, other, hand) || what < 0 || what > 2) {
            return NONE;
        }
        List<int[]> l = leastLine(one, other, hand);
        return what == 2 ? l.size() - 1 : l.get(0)[what];
    }

    int piece(int one, int other, int hand, int k, int what) {
        if (!lineOk(one, other, hand) || what < 0 || what > 1) {
            return NONE;
        }
        List<int[]> l = leastLine(one, other, hand);
        return k < 0 || k >= l.size() - 1 ? NONE : l.get(k + 1)[what];
    }

    int best(int w) {
        if (!wordOk(w)) {
            return NONE;
        }
        int found = NONE;
        int least = 0;
        for (int v = 0; v < told.words.size(); v++) {
            int d = line(w, v, 0, 0);
            if (found == NONE || d < least) {
                found = v;
                least = d;
            }
        }
        return found;
    }

    int hand(int one, int other) {
        if (!wordOk(one) || !wordOk(other)) {
            return NONE;
        }
        int second = line(one, other, 1, 0);
        return second != NONE && second < line(one, other, 0, 0) ? 1 : 0;
    }

    int been(int b) {
        if (!boardOk(b)) {
            return NONE;
        }
        Sign s = state.signs.get(b);
        int bits = 0;
        for (int w = 0; w < told.words.size(); w++) {
            String name = told.words.get(w);
            if (name.length() != s.glyphs.length || !told.paintable(name, s.hand)) {
                continue;
            }
            boolean may = true;
            for (int p = 0; p < name.length(); p++) {
                may &= (s.glyphs[p] | painted(w, s.hand)[p]) == painted(w, s.hand)[p];
            }
            bits += may ? 1 << w : 0;
        }
        return bits;
    }

    private boolean saysItsWord(Sign s) {
        int[] said = saying(s, 0);
        String w = told.words.get(s.word);
        for (int k = 0; k < said.length; k++) {
            if (said[k] != w.charAt(k) - 'a' + 1) {
                return false;
            }
        }
        return true;
    }

    int lasts(int b) {
        if (!boardOk(b) || !saysItsWord(state.signs.get(b))) {
            return NONE;
        }
        State s = state.copy();
        int n = 0;
        while (n < 60 && s.year < 999) {
            rainOn(s.signs, s.year);
            s.year++;
            if (!saysItsWord(s.signs.get(b))) {
                break;
            }
            n++;
        }
        return n;
    }

    int mend(int b, int p, int k) {
        if (!placeOk(b, p) || !letterOk(state.signs.get(b).hand, k)) {
            return NONE;
        }
        Sign s = state.signs.get(b);
        Letter l = told.letters.get(s.hand).get(k);
        int g = s.glyphs[p];
        for (int n = 0; ; n++) {
            if (read(s.hand, g) == l.name - 'a' + 1) {
                return n;
            }
            int lacking = l.glyph & ~g;
            if (lacking == 0) {
                return NONE;
            }
            g |= Integer.lowestOneBit(lacking);
        }
    }

    private int draw(int m) {
        x = (1103515245L * x + 12345) % (1L << 31);
        return (int) (x / 64 % m);
    }

    private int pass(int n, boolean byChance) {
        if (n < 1 || n > 100 || state.year + n > 999) {
            refused[3]++;
            return NONE;
        }
        act();
        int rain = 0;
        int hail = 0;
        for (int i = 0; i < n; i++) {
            State before = state.copy();
            if (byChance && draw(100) < told.hail && !state.signs.isEmpty()) {
                Sign s = state.signs.get(draw(state.signs.size()));
                int p = draw(s.glyphs.length);
                int bit = draw(15);
                if ((s.glyphs[p] >> bit & 1) == 1) {
                    s.glyphs[p] -= 1 << bit;
                    hail++;
                }
            }
            rain += rainOn(state.signs, state.year);
            for (int b = 0; b < state.signs.size(); b++) {
                int[] now = saying(state.signs.get(b), 0);
                if (!Arrays.equals(now, saying(before.signs.get(b), 0))) {
                    int silent = 0;
                    for (int l : now) {
                        silent += l == 0 ? 1 : 0;
                    }
                    state.kept.add(new int[] {state.year, b, silent});
                }
            }
            state.year++;
        }
        return byChance ? hail : rain;
    }

    private void act() {
        past.addLast(state.copy());
        if (past.size() > 20) {
            past.removeFirst();
        }
    }

    int years(int n) {
        return pass(n, false);
    }

    int chance(int n) {
        return pass(n, true);
    }

    boolean stroke(int b, int p, int bit, int on) {
        if (!placeOk(b, p) || bit < 0 || bit > 14 || on < 0 || on > 1
                || (state.signs.get(b).glyphs[p] >> bit & 1) == on) {
            refused[2]++;
            return false;
        }
        act();
        state.signs.get(b).glyphs[p] += on == 1 ? 1 << bit : -(1 << bit);
        return true;
    }

    boolean paint(int b, int w, int hand) {
        if (!boardOk(b) || !wordOk(w) || !handOk(hand) || !told.paintable(told.words.get(w), hand)) {
            refused[2]++;
            return false;
        }
        act();
        Sign s = state.signs.get(b);
        s.word = w;
        s.hand = hand;
        s.glyphs = painted(w, hand);
        return true;
    }

    boolean undo() {
        if (past.isEmpty()) {
            refused[4]++;
            return false;
        }
        state = past.removeLast();
        return true;
    }

    boolean seed(int n) {
        if (n < 0) {
            refused[5]++;
            return false;
        }
        x = n;
        return true;
    }

    long ask() {
        try {
            faultKind = 0;
            faultPlace = NONE;
            Text t = new Text(takeTape());
            String key = t.peek();
            if (!Arrays.asList("first", "last", "often", "total", "most", "least").contains(key)) {
                throw new Fault(1, t.i);
            }
            t.pass();
            Grammar g = new Grammar(t, "number long ink year", true);
            boolean test = key.equals("first") || key.equals("last") || key.equals("often");
            Formula f = test ? g.test() : g.sum();
            if (!t.peek().isEmpty()) {
                throw new Fault(1, t.i);
            }
            return answer(key, f);
        } catch (Fault f) {
            faultKind = f.kind;
            faultPlace = f.place;
            return NOTHING;
        }
    }

    private long answer(String key, Formula f) {
        List<Long> all = new ArrayList<>();
        for (int w = 0; w < told.words.size(); w++) {
            Map<String, Integer> v = new HashMap<>();
            v.put("number", w);
            v.put("long", told.words.get(w).length());
            v.put("year", state.year);
            int ink = 0;
            for (int g : painted(w, 0)) {
                ink += count(g);
            }
            v.put("ink", ink);
            all.add(f.of(v));
        }
        switch (key) {
            case "first": return all.indexOf(1L);
            case "last": return all.lastIndexOf(1L);
            case "most": return all.stream().mapToLong(l -> l).max().orElse(0);
            case "least": return all.stream().mapToLong(l -> l).min().orElse(0);
            default: return all.stream().mapToLong(l -> l).sum();
        }
    }

    private int[] encode() {
        List<Integer> out = new ArrayList<>();
        out.add(state.year / 256);
        out.add(state.year % 256);
        for (Sign s : state.signs) {
            out.add(s.word);
            out.add(s.hand);
            for (int p = 0; p < 6; p++) {
                int g = p < s.glyphs.length ? s.glyphs[p] : 0;
                out.add(g / 256);
                out.add(g % 256);
            }
        }
        int c = 223;
        for (int b : out) {
            c = (3 * c + b) % 251;
        }
        out.add(c);
        return out.stream().mapToInt(i -> i).toArray();
    }

    int image() {
        lastImage = encode();
        return lastImage.length;
    }

    int octet(int k) {
        return k >= 0 && k < lastImage.length ? lastImage[k] : NONE;
    }

    boolean on() {
        List<Integer> b = new ArrayList<>(tape);
        tape.clear();
        State s = decode(b);
        if (s == null) {
            refused[5]++;
            return false;
        }
        state = s;
        past.clear();
        return true;
    }

    private State decode(List<Integer> b) {
        if (b.size() != 3 + 14 * told.boards.size()) {
            return null;
        }
        int c = 223;
        for (int i = 0; i + 1 < b.size(); i++) {
            c = (3 * c + b.get(i)) % 251;
        }
        State s = new State();
        s.year = b.get(0) * 256 + b.get(1);
        if (c != b.get(b.size() - 1) || s.year > 999) {
            return null;
        }
        for (int n = 0; n < told.boards.size(); n++) {
            Sign sign = new Sign();
            sign.word = b.get(2 + 14 * n);
            sign.hand = b.get(3 + 14 * n);
            if (!wordOk(sign.word) || !handOk(sign.hand)
                    || !told.paintable(told.words.get(sign.word), sign.hand)) {
                return null;
            }
            sign.glyphs = new int[told.words.get(sign.word).length()];
            for (int p = 0; p < 6; p++) {
                int g = b.get(4 + 14 * n + 2 * p) * 256 + b.get(5 + 14 * n + 2 * p);
                if (g > 32767 || p >= sign.glyphs.length && g > 0) {
                    return null;
                }
                if (p < sign.glyphs.length) {
                    sign.glyphs[p] = g;
                }
            }
            s.signs.add(sign);
        }
        return s;
    }

    int status(int what) {
        return what < 0 || what > 5 ? NONE : refused[what];
    }
}
