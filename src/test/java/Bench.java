import java.nio.charset.StandardCharsets;

/** What the tests share: feeding texts, counting wrong answers. */
final class Bench {
    private static int wrong;
    private static int looked;

    private Bench() {
    }

    static void due(String what, long got, long want) {
        looked++;
        if (got != want) {
            wrong++;
            System.out.println(what + " answered " + got + ", due is " + want);
        }
    }

    static void due(String what, boolean got, boolean want) {
        due(what, got ? 1 : 0, want ? 1 : 0);
    }

    static void finish() {
        System.out.println(looked + " answers looked at, " + wrong + " wrong");
        if (wrong != 0 || looked == 0) {
            System.exit(1);
        }
    }

    static int wrongSoFar() {
        return wrong;
    }

    static byte[] bytesOf(String text) {
        return text.getBytes(StandardCharsets.ISO_8859_1);
    }

    /** The five numbers of a feed() that begins at a byte of the text; blanks behind its end. */
    static int[] feedOf(byte[] text, int from) {
        int[] numbers = new int[5];
        for (int i = 0; i < 20; i++) {
            int octet = from + i < text.length ? text[from + i] & 255 : 32;
            numbers[i / 4] = numbers[i / 4] << 8 | octet;
        }
        return numbers;
    }

    static void put(TurnedBoards x, byte[] text) {
        x.end(0);
        for (int from = 0; from < text.length; from += 20) {
            int[] n = feedOf(text, from);
            x.feed(n[0], n[1], n[2], n[3], n[4]);
        }
        x.end(text.length);
    }

    static int shop(TurnedBoards x, String text) {
        put(x, bytesOf(text));
        return x.shop();
    }

    static TurnedBoards shopOf(String text) {
        TurnedBoards x = new TurnedBoards();
        if (shop(x, text) < 0) {
            due("fault " + x.fault(0) + " at " + x.fault(1) + " in: " + text + ": shop()", -1, 0);
        }
        return x;
    }

    static long ask(TurnedBoards x, String text) {
        put(x, bytesOf(text));
        return x.ask();
    }

    /** A shop text with a fault of that kind at that place. */
    static void faulty(String text, int kind, int place) {
        TurnedBoards x = new TurnedBoards();
        due("shop() of " + text, shop(x, text), -1);
        due("fault(0) of " + text, x.fault(0), kind);
        due("fault(1) of " + text, x.fault(1), place);
        due("status(1) of " + text, x.status(1), 1);
    }

    static void faultyAsk(TurnedBoards x, String text, int kind, int place) {
        due("ask() of " + text, ask(x, text), TurnedBoards.NOTHING);
        due("fault(0) of " + text, x.fault(0), kind);
        due("fault(1) of " + text, x.fault(1), place);
    }

    /** A text that is good as far as it goes, and a fault so many bytes behind it. */
    static void faultyBehind(String good, String bad, int kind, int place) {
        faulty(good + bad, kind, good.length() + place);
    }

    /** The GLYPH of five rows as they are told. */
    static int rows(int... told) {
        int glyph = 0;
        for (int r = 0; r < 5; r++) {
            glyph |= (told[r] / 4 % 2 + told[r] / 2 % 2 * 2 + told[r] % 2 * 4) << 3 * r;
        }
        return glyph;
    }

    /** The statement that tells a letter by its GLYPH. */
    static String letter(char name, int hand, int glyph) {
        StringBuilder text = new StringBuilder("letter " + name + " hand " + hand + " is");
        for (int r = 0; r < 5; r++) {
            int row = glyph >> 3 * r & 7;
            text.append(' ').append((row & 1) << 2 | row & 2 | row >> 2);
        }
        return text.append(';').toString();
    }

    static byte[] imageOf(TurnedBoards x) {
        byte[] image = new byte[x.image()];
        for (int k = 0; k < image.length; k++) {
            image[k] = (byte) x.octet(k);
        }
        return image;
    }

    /** Makes the last byte of an image what it must be. */
    static byte[] sealed(byte[] image) {
        int c = 223;
        for (int k = 0; k + 1 < image.length; k++) {
            c = (3 * c + (image[k] & 255)) % 251;
        }
        image[image.length - 1] = (byte) c;
        return image;
    }

    static boolean on(TurnedBoards x, byte[] image) {
        put(x, image);
        return x.on();
    }

    /** So many YEARS, by as many calls as they need. */
    static void pass(TurnedBoards x, int years) {
        for (int left = years; left > 0; left -= 100) {
            due("years", x.years(Math.min(100, left)) >= 0, true);
        }
    }
}
