import java.nio.charset.StandardCharsets;

/** What the tests share: feeding texts, counting wrong answers. */
final class Bench {
    private static int wrong;
    private static int looked;

    private Bench() {
    }

    static void due(String what, long got, long want) {
        looked++;
        if (got != want) {
            wrong++;
            System.out.println(what + " answered " + got + ", due is " + want);
        }
    }

    static void due(String what, boolean got, boolean want) {
        due(what, got ? 1 : 0, want ? 1 : 0);
    }

    static void finish() {
        System.out.println(looked + " answers looked at, " + wrong + " wrong");
        if (wrong != 0 || looked == 0) {
            System.exit(1);
        }
    }

    static int wrongSoFar() {
        return wrong;
    }

    static byte[] bytesOf(String text) {
        return text.getBytes(StandardCharsets.ISO_8859_1);
    }

    /** The five numbers of a feed() that begins at a byte of the text; blanks behind its end. */
    static int[] feedOf(byte[] text, int from) {
        int[] numbers = new int[5];
        for (int i = 0; i < 20; i++) {
            int octet = from + i < text.length ? text[from + i] & 255 : 32;
            numbers[i / 4] = numbers[i / 4] << 8 | octet;
        }
        return numbers;
    }

    static void put(TurnedBoards x, byte[] text) {
        x.end(0);
        for (int from = 0; from < text.length; from += 20) {
            int[] n = feedOf(text, from);
            x.feed(n[0], n[1], n[2], n[3], n[4]);
        }
        x.end(text.length);
    }

    static int shop(TurnedBoards x, String text) {
        put(x, bytesOf(text));
        return x.shop();
    }

    static TurnedBoards shopOf(String text) {
        TurnedBoards x = new TurnedBoards();
        if (shop(x, text) < 0) {
            due("fault " + x.fault(0) + " at " + x.fault(1) + " in: " + text + ": shop()", -1, 0);
        }
        return x;
    }

    static long ask(TurnedBoards x, String text) {
        put(x, bytesOf(text));
        return x.ask();
    }

    /** A shop text with a fault of that kind at that place. */
    static void faulty(String text, int kind, int place) {
        TurnedBoards x = new TurnedBoards();
        due("shop() of " + text, shop(x, text), -1);
        due("fault(0) of " + text, x.fault(0), kind);
        due("fault(1) of " + text, x.fault(1), place);
        due("status(1) of " + text, x.status(1), 1);
    }

    static void faultyAsk(TurnedBoards x, String text, int kind, int place) {
        due("ask() of " + text, ask(x, text), TurnedBoards.NOTHING);
        due("fault(0) of " + text, x.fault(0), kind);
        due("fault(1) of " + text, x.fault(1), place);
    }
}
