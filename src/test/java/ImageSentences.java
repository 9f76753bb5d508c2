/** Promises 31 to 34: IMAGES, refusals. */
final class ImageSentences {
    private static final int NONE = TurnedBoards.NONE;
    private static final int[] FAR = {-1, Integer.MIN_VALUE, Integer.MAX_VALUE};
    /** Words of one, two and six letters; c is not told of HAND 1. */
    private static final String SHOP = Bench.letter('a', 0, 32767) + Bench.letter('b', 0, 0) + Bench.letter('c', 0, 258)
            + Bench.letter('a', 1, 255) + Bench.letter('b', 1, 256) + "word a;word ab;word aaaaaa;word c;";

    private ImageSentences() {
    }

    static void test(Sentences s) {
        s.holds(31, "AN IMAGE: YEAR (two bytes, the higher first); for each BOARD its WORD, its HAND, for each of six places "
                + "its GLYPH (two bytes; 0 behind its last one);", ImageSentences::bytes);
        s.holds(31, "last a byte: all ahead from 223 on, c = (3 c + it) mod 251.", ImageSentences::lastByte);
        s.holds(31, "AN IMAGE is written: how many bytes.", ImageSentences::howManyBytes);
        s.holds(32, "Byte k of the latest image(); NONE when there is none such.", ImageSentences::octets);
        s.holds(33, "The tape (it goes) is AN IMAGE of this SHOP: true, all is as it tells, nothing is KEPT or can be undone",
                ImageSentences::asItTells);
        s.holds(33, "YEAR 999,", ImageSentences::yearsOfImages);
        s.holds(33, "GLYPHS 32767 at most;", ImageSentences::glyphsOfImages);
        s.holds(33, "WORDS that there are,", ImageSentences::wordsOfImages);
        s.holds(33, "HANDS by which they can be painted;", ImageSentences::handsOfImages);
        s.holds(33, "no strokes behind the last place)", ImageSentences::strokesBehind);
        s.holds(33, "false, refused (5), when it is none (YEAR 999, GLYPHS 32767 at most; WORDS that there are, HANDS by "
                + "which they can be painted; no strokes behind the last place), all staying.", ImageSentences::allStaying);
        s.holds(34, "How many were refused: 0 feed(), end(); 1 shop(); 2 stroke(), paint(); 3 years(), chance(); 4 undo(); 5 "
                + "seed(), on(). NONE for others.", ImageSentences::status);
    }

    private static void due(String what, long got, long want) {
        Bench.due(what, got, want);
    }

    private static void due(String what, boolean got, boolean want) {
        Bench.due(what, got, want);
    }

    private static void imageIs(TurnedBoards x, int... want) {
        due("bytes but the last", x.image() - 1, want.length);
        for (int k = 0; k < want.length; k++) {
            due("octet(" + k + ")", x.octet(k), want[k]);
        }
    }

    private static void bytes() {
        TurnedBoards x = Bench.shopOf(SHOP + "board aaaaaa hand 0;board ab hand 1;board c hand 0;");
        int f = 255;
        imageIs(x, 0, 0, 2, 0, 127, f, 127, f, 127, f, 127, f, 127, f, 127, f, 1, 1, 0, f, 1, 0, 0, 0, 0, 0, 0, 0, 0, 0,
                3, 0, 1, 2, 0, 0, 0, 0, 0, 0, 0, 0, 0, 0);
        // a board that is painted shorter has nothing behind its last place
        x.paint(0, 0, 1);
        x.stroke(1, 1, 0, 1);
        Bench.pass(x, 255);
        imageIs(x, 0, f, 0, 1, 0, f, 0, 0, 0, 0, 0, 0, 0, 0, 0, 0, 1, 1, 0, f, 1, 1, 0, 0, 0, 0, 0, 0, 0, 0,
                3, 0, 1, 2, 0, 0, 0, 0, 0, 0, 0, 0, 0, 0);
        TurnedBoards y = new TurnedBoards();
        Bench.pass(y, 255);
        imageIs(y, 0, 255);
        y.years(1);
        imageIs(y, 1, 0);
        Bench.pass(y, 743);
        imageIs(y, 3, 231);
    }

    private static void lastByte() {
        TurnedBoards y = new TurnedBoards();
        y.image();
        // 223, 669 mod 251 = 167, 501 mod 251 = 250
        due("of two bytes of 0", y.octet(2), 250);
        y.years(1);
        y.image();
        // 501 + 1 = 502, 502 mod 251 = 0
        due("of year 1", y.octet(2), 0);
        y.years(1);
        y.image();
        due("of year 2", y.octet(2), 1);
        TurnedBoards x = Bench.shopOf(SHOP + "board aaaaaa hand 0;".repeat(4));
        byte[] image = Bench.imageOf(x);
        int last = image[58] & 255;
        due("of all ahead", last, Bench.sealed(image)[58] & 255);
        due("no more than 250", last <= 250, true);
    }

    private static void howManyBytes() {
        for (int boards = 0; boards <= 4; boards++) {
            TurnedBoards x = Bench.shopOf(SHOP + "board a hand 0;".repeat(boards));
            due("with " + boards + " boards", x.image(), 3 + 14 * boards);
        }
        due("without a shop", new TurnedBoards().image(), 3);
    }

    private static void octets() {
        TurnedBoards x = Bench.shopOf(SHOP + "board a hand 0;".repeat(4));
        due("ahead of any", x.octet(0), NONE);
        due("59 bytes", x.image(), 59);
        due("the first", x.octet(0), 0);
        due("the greatest byte", x.octet(5), 255);
        due("the last", x.octet(58) >= 0, true);
        due("behind it", x.octet(59), NONE);
        for (int k : FAR) {
            due("octet(" + k + ")", x.octet(k), NONE);
        }
        // the latest image() tells, not what has come to be since
        x.stroke(0, 0, 0, 0);
        due("as it was", x.octet(5), 255);
        x.image();
        due("as it is", x.octet(5), 254);
        TurnedBoards y = Bench.shopOf(SHOP + "board a hand 0;");
        y.image();
        Bench.shop(y, "");
        due("the old one has 17", y.octet(16) >= 0, true);
        due("the new one", y.image(), 3);
        due("has 3", y.octet(3), NONE);
    }

    private static void asItTells() {
        TurnedBoards x = Bench.shopOf(SHOP + "board aaaaaa hand 0;board ab hand 1;rain row=0;");
        x.years(3);
        x.paint(1, 0, 0);
        byte[] image = Bench.imageOf(x);
        int strokes = x.has(5);
        TurnedBoards y = Bench.shopOf(SHOP + "board aaaaaa hand 0;board ab hand 1;rain row=0;");
        y.years(1);
        due("it is one", Bench.on(y, image), true);
        due("the tape is gone", y.end(1), false);
        due("the year", y.has(4), 3);
        due("the strokes", y.has(5), strokes);
        due("the word", y.board(1, 0), 0);
        due("the hand", y.board(1, 1), 0);
        due("the places", y.board(1, 2), 1);
        for (int p = 0; p < 6; p++) {
            due("place " + p, y.glyph(0, p), x.glyph(0, p));
        }
        due("nothing is kept", y.has(6), 0);
        due("nothing is kept", y.kept(0, 0), NONE);
        due("nothing can be undone", y.undo(), false);
        // the WORD that a board was painted with last is that of the image
        due("it lasts no year", y.lasts(1), 0);
        TurnedBoards z = Bench.shopOf(SHOP + "board aaaaaa hand 1;board c hand 0;");
        byte[] other = Bench.imageOf(z);
        z.paint(0, 0, 0);
        z.paint(1, 1, 1);
        due("it is one", Bench.on(z, other), true);
        due("word 2", z.board(0, 0), 2);
        due("hand 1", z.board(0, 1), 1);
        due("word 3", z.board(1, 0), 3);
        due("hand 0", z.board(1, 1), 0);
        // without boards: three bytes
        TurnedBoards none = new TurnedBoards();
        due("3 bytes", Bench.on(none, Bench.sealed(new byte[] {0, 9, 0})), true);
        due("the year", none.has(4), 9);
        due("2 bytes", Bench.on(none, new byte[] {0, 9}), false);
        due("no byte", none.on(), false);
        due("4 bytes", Bench.on(none, Bench.sealed(new byte[] {0, 9, 0, 0})), false);
        due("refused", none.status(5), 3);
        due("the year", none.has(4), 9);
    }

    /** An image of one board with some bytes put in place of others: position, byte, ... */
    private static boolean goesOn(String board, int... changes) {
        TurnedBoards x = Bench.shopOf(SHOP + board);
        byte[] image = Bench.imageOf(x);
        for (int i = 0; i < changes.length; i += 2) {
            image[changes[i]] = (byte) changes[i + 1];
        }
        boolean good = Bench.on(x, Bench.sealed(image));
        due("refused", x.status(5), good ? 0 : 1);
        due("the tape is gone", x.end(1), false);
        return good;
    }

    private static void yearsOfImages() {
        due("year 998", goesOn("board a hand 0;", 0, 3, 1, 230), true);
        due("year 999", goesOn("board a hand 0;", 0, 3, 1, 231), true);
        due("year 1000", goesOn("board a hand 0;", 0, 3, 1, 232), false);
        due("year 65535", goesOn("board a hand 0;", 0, 255, 1, 255), false);
        TurnedBoards x = new TurnedBoards();
        due("year 999", Bench.on(x, Bench.sealed(new byte[] {3, (byte) 231, 0})), true);
        due("no year passes", x.years(1), NONE);
        due("year 1000", Bench.on(x, Bench.sealed(new byte[] {3, (byte) 232, 0})), false);
        due("it stays", x.has(4), 999);
    }

    private static void glyphsOfImages() {
        for (int place = 0; place < 6; place++) {
            int at = 4 + 2 * place;
            due("0", goesOn("board aaaaaa hand 0;", at, 0, at + 1, 0), true);
            due("32767", goesOn("board aaaaaa hand 0;", at, 127, at + 1, 255), true);
            due("32768", goesOn("board aaaaaa hand 0;", at, 128, at + 1, 0), false);
            due("65535", goesOn("board aaaaaa hand 0;", at, 255, at + 1, 255), false);
        }
    }

    private static void wordsOfImages() {
        due("word 0", goesOn("board a hand 0;", 2, 0), true);
        due("word 3", goesOn("board a hand 0;", 2, 3), true);
        due("word 4", goesOn("board a hand 0;", 2, 4), false);
        due("word 255", goesOn("board a hand 0;", 2, 255), false);
        due("word 4 without strokes", goesOn("board a hand 0;", 2, 4, 4, 0, 5, 0), false);
    }

    private static void handsOfImages() {
        due("hand 1", goesOn("board a hand 0;", 3, 1), true);
        due("hand 2", goesOn("board a hand 0;", 3, 2), false);
        due("hand 255", goesOn("board a hand 0;", 3, 255), false);
        due("c in hand 0", goesOn("board c hand 0;", 3, 0), true);
        due("c in hand 1", goesOn("board c hand 0;", 3, 1), false);
    }

    private static void strokesBehind() {
        for (int place = 1; place < 6; place++) {
            int at = 4 + 2 * place;
            due("behind one place", goesOn("board a hand 0;", at, 0, at + 1, 1), false);
            due("behind one place", goesOn("board a hand 0;", at, 64, at + 1, 0), false);
            due("at the second of two", goesOn("board ab hand 0;", at, 64, at + 1, 0), place == 1);
        }
        due("a shorter word with none", goesOn("board ab hand 0;", 2, 0, 6, 0, 7, 0), true);
        due("a shorter word with one left", goesOn("board ab hand 0;", 2, 0, 6, 0, 7, 1), false);
        due("a longer word", goesOn("board ab hand 0;", 2, 2), true);
    }

    private static void allStaying() {
        TurnedBoards x = Bench.shopOf(SHOP + "board a hand 0;rain row=0;forgive 0;");
        x.years(2);
        byte[] image = Bench.imageOf(x);
        for (int k = 0; k < image.length; k++) {
            byte[] spoilt = image.clone();
            spoilt[k] ^= 1;
            due("byte " + k + " spoilt", Bench.on(x, spoilt), false);
        }
        byte[] wrong = image.clone();
        wrong[16] = (byte) 251;
        due("the last byte beyond 250", Bench.on(x, wrong), false);
        due("one byte less", Bench.on(x, java.util.Arrays.copyOf(image, 16)), false);
        due("one byte more", Bench.on(x, java.util.Arrays.copyOf(image, 18)), false);
        due("no bytes", x.on(), false);
        due("all refused", x.status(5), 21);
        due("the year stays", x.has(4), 2);
        due("the strokes stay", x.has(5), 12);
        due("what is kept stays", x.has(6), 1);
        due("what can be undone stays", x.has(7), 1);
        due("not a bit spoilt", Bench.on(x, image), true);
        due("refused", x.status(5), 21);
        due("nothing kept now", x.has(6), 0);
        // another shop's image: one board less
        TurnedBoards y = Bench.shopOf(SHOP + "board a hand 0;board a hand 0;");
        due("of another shop", Bench.on(y, image), false);
    }

    private static void status() {
        TurnedBoards x = Bench.shopOf(SHOP + "board a hand 0;");
        int[] want = new int[6];
        Runnable[] refusals = {() -> x.end(-1), () -> Bench.shop(x, "x"), () -> x.stroke(0, 0, 0, 1),
            () -> x.paint(0, 9, 0), () -> x.years(0), () -> x.chance(0), x::undo, () -> x.seed(-1), x::on};
        int[] counts = {0, 1, 2, 2, 3, 3, 4, 5, 5};
        for (int round = 0; round < 3; round++) {
            for (int i = 0; i < refusals.length; i++) {
                refusals[i].run();
                want[counts[i]]++;
                for (int what = 0; what < 6; what++) {
                    due("status(" + what + ")", x.status(what), want[what]);
                }
            }
        }
        for (int i = 0; i < 80; i++) {
            x.feed(0, 0, 0, 0, 0);
        }
        due("80 feeds", x.status(0), 3);
        x.feed(0, 0, 0, 0, 0);
        due("the 81st", x.status(0), 4);
        // what is answered with NONE without an act is not refused
        x.board(9, 0);
        x.says(9, 9, 9, 9);
        x.octet(-1);
        x.mend(9, 9, 9);
        Bench.ask(x, "x");
        Bench.shop(x, SHOP);
        want[0] = 4;
        for (int what = 0; what < 6; what++) {
            due("a new shop leaves status(" + what + ")", x.status(what), want[what]);
        }
        due("status(6)", x.status(6), NONE);
        for (int what : FAR) {
            due("status(" + what + ")", x.status(what), NONE);
        }
    }
}
