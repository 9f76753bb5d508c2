import java.util.Random;

/**
 * Any calls with any arguments in any state, the same ones each time: none may throw or fail to end. What they answer
 * is looked at elsewhere; here only that a boolean call that is refused is counted, and that nothing leaves its range.
 */
public final class WildTest {
    private static final int RUNS = 400;
    private static final int CALLS = 512;
    private static final int[] EDGES = {Integer.MIN_VALUE, Integer.MIN_VALUE + 1, -32768, -256, -2, -1, 0, 1, 2, 3, 4, 5, 6,
        7, 8, 11, 12, 14, 15, 16, 20, 31, 32, 40, 59, 60, 61, 63, 64, 99, 100, 101, 255, 256, 998, 999, 1000, 1599, 1600,
        1601, 32767, 32768, 65535, 65536, Integer.MAX_VALUE - 20, Integer.MAX_VALUE - 1, Integer.MAX_VALUE};
    private static final String[] WORDS = ("letter hand is word board doubt rain blank hail more less ink column row place "
            + "near year number long line at or and not all min max forgive first last often total most least a b c ab abc "
            + "0 1 2 3 4 5 6 7 8 9 99 100 101 9999 10000 ( ) [ ] < > = + - * / , ;").split(" ");

    private final Random random;
    private final TurnedBoards x = new TurnedBoards();

    private WildTest(long seed) {
        random = new Random(seed);
    }

    public static void main(String[] args) {
        for (int run = 1; run <= RUNS; run++) {
            new WildTest(run).run(run);
        }
        Bench.finish();
    }

    private void run(int run) {
        int call = 0;
        try {
            for (call = 1; call <= CALLS; call++) {
                call();
            }
            Bench.due("run " + run + ": the year can be", x.has(4) >= 0 && x.has(4) <= 999, true);
            Bench.due("run " + run + ": the strokes can be", x.has(5) >= 0 && x.has(5) <= 360, true);
        } catch (RuntimeException | Error thrown) {
            Bench.due("run " + run + ", call " + call + " threw " + thrown, 1, 0);
        }
    }

    private int any() {
        int kind = random.nextInt(4);
        return kind == 0 ? EDGES[random.nextInt(EDGES.length)] : kind == 1 ? random.nextInt() : random.nextInt(4);
    }

    private void call() {
        switch (random.nextInt(36)) {
            case 0: x.feed(any(), any(), any(), any(), any()); break;
            case 1: x.end(any()); break;
            case 2: text(random.nextInt(3) == 0 ? shop() : broken()); x.shop(); break;
            case 3: x.shop(); break;
            case 4: x.fault(any()); break;
            case 5: x.has(any()); break;
            case 6: x.letter(any(), any(), any()); break;
            case 7: x.word(any(), any()); break;
            case 8: x.board(any(), any()); break;
            case 9: x.glyph(any(), any()); break;
            case 10: x.kept(any(), any()); break;
            case 11: x.seen(any(), any()); break;
            case 12: x.doubt(any(), any(), any()); break;
            case 13: x.reads(any(), any(), any()); break;
            case 14: x.says(any(), any(), any(), any()); break;
            case 15: x.becomes(any(), any(), any()); break;
            case 16: x.line(any(), any(), any(), any()); break;
            case 17: x.piece(any(), any(), any(), any(), any()); break;
            case 18: x.best(any()); break;
            case 19: x.hand(any(), any()); break;
            default: act(); break;
        }
    }

    private void act() {
        switch (random.nextInt(16)) {
            case 0: x.been(any()); break;
            case 1: x.lasts(any()); break;
            case 2: x.mend(any(), any(), any()); break;
            case 3: x.years(any()); break;
            case 4: x.chance(any()); break;
            case 5: x.stroke(any(), any(), any(), any()); break;
            case 6: x.paint(any(), any(), any()); break;
            case 7: x.undo(); break;
            case 8: x.seed(any()); break;
            case 9: text(question()); x.ask(); break;
            case 10: x.ask(); break;
            case 11: x.image(); break;
            case 12: x.octet(any()); break;
            case 13: image(); x.on(); break;
            case 14: x.on(); break;
            default: x.status(any()); break;
        }
    }

    private void text(String text) {
        Bench.put(x, Bench.bytesOf(text.length() > 1600 ? text.substring(0, 1600) : text));
    }

    /** A good shop as a rule, since most calls look at one. */
    private String shop() {
        StringBuilder text = new StringBuilder();
        for (char name = 'a'; name <= 'c'; name++) {
            text.append(Bench.letter(name, 0, random.nextInt(32768)));
            text.append(random.nextInt(3) == 0 ? "" : Bench.letter(name, 1, random.nextInt(32768)));
        }
        text.append("word a;word abc;word cab;word abcabc;board abc hand 0;board abcabc hand 0;");
        text.append("forgive ").append(random.nextInt(100)).append(";hail ").append(random.nextInt(101)).append(';');
        text.append(random.nextInt(2) == 0 ? "rain near<2 or year>2 and row/column=1;" : "");
        text.append(random.nextInt(2) == 0 ? "doubt (more*less-ink)/less*9999*9999;" : "");
        return text.toString();
    }

    private String broken() {
        if (random.nextInt(3) == 0) {
            byte[] bytes = Bench.bytesOf(shop());
            bytes[random.nextInt(bytes.length)] = (byte) random.nextInt(256);
            return new String(bytes, java.nio.charset.StandardCharsets.ISO_8859_1);
        }
        return words("");
    }

    private String words(String begin) {
        StringBuilder text = new StringBuilder(begin);
        for (int i = random.nextInt(40); i > 0; i--) {
            text.append(WORDS[random.nextInt(WORDS.length)]).append(random.nextInt(4) == 0 ? "" : " ");
        }
        return text.toString();
    }

    private String question() {
        String[] good = {"first line number<3", "last at(long-1)=3", "often not year>2", "total line at 0*number/year",
            "most min(ink,line(long-9999))", "least 0-line line line line line line number", "often ((((((1))))))=1"};
        return random.nextInt(2) == 0 ? good[random.nextInt(good.length)] : words("total ");
    }

    private void image() {
        byte[] image = Bench.imageOf(x);
        image[random.nextInt(image.length)] = (byte) random.nextInt(256);
        Bench.put(x, random.nextInt(3) == 0 ? image : Bench.sealed(image));
    }
}
