/** Promises 1 to 3: the new object, the tape. */
final class TapeSentences {
    private static final int NONE = TurnedBoards.NONE;
    private static final int MIN = Integer.MIN_VALUE;
    private static final int MAX = Integer.MAX_VALUE;

    private TapeSentences() {
    }

    static void test(Sentences s) {
        s.holds(1, "An object is used for at most 512 calls after it has been made", TapeSentences::last512thCall);
        s.holds(1, "No shop, no letters.", TapeSentences::newObject);
        s.holds(1, "`NONE = -1`: There is none; it is refused.", TapeSentences::none);
        s.holds(13, "`NOTHING = -1000000000000000L`: Told where a number below 0 may be one.", TapeSentences::nothing);
        s.holds(2, "Twenty bytes come behind those on the tape, of each number the highest first: how many there are",
                TapeSentences::twentyBytes);
        s.holds(2, "NONE, refused (0), if there would be more than 1600.", TapeSentences::fullTape);
        s.holds(3, "The tape has its first n bytes alone: true", TapeSentences::firstBytes);
        s.holds(3, "false, refused (0), if it has not so many, or n is below 0.", TapeSentences::notSoMany);
    }

    private static void due(String what, long got, long want) {
        Bench.due(what, got, want);
    }

    private static void due(String what, boolean got, boolean want) {
        Bench.due(what, got, want);
    }

    private static int blanks(TurnedBoards x) {
        return x.feed(0x20202020, 0x20202020, 0x20202020, 0x20202020, 0x20202020);
    }

    private static void last512thCall() {
        TurnedBoards x = new TurnedBoards();
        for (int call = 1; call <= 509; call++) {
            due("call " + call + ": years(1)", x.years(1), 0);
        }
        due("call 510: the year", x.has(4), 509);
        due("call 511: years(0)", x.years(0), NONE);
        due("call 512: what was refused", x.status(3), 1);
    }

    private static void newObject() {
        TurnedBoards x = new TurnedBoards();
        for (int what = 0; what <= 7; what++) {
            due("has(" + what + ")", x.has(what), 0);
        }
        for (int hand = 0; hand <= 1; hand++) {
            due("a letter", x.letter(hand, 0, 0), NONE);
            due("a reading without letters", x.reads(hand, 0, 0), 0);
            due("a doubt", x.doubt(hand, 0, 0), TurnedBoards.NOTHING);
        }
        due("a word", x.word(0, 0), NONE);
        due("a board", x.board(0, 0), NONE);
        due("a glyph", x.glyph(0, 0), NONE);
        due("something kept", x.kept(0, 0), NONE);
        due("a line", x.line(0, 0, 0, 0), NONE);
        due("a best word", x.best(0), NONE);
        due("an undo", x.undo(), false);
        due("an image", x.image(), 3);
    }

    private static void none() {
        due("NONE", TurnedBoards.NONE, -1);
        TurnedBoards x = new TurnedBoards();
        due("there is none", x.word(0, 0), -1);
        due("it is refused", x.years(101), -1);
        due("it is refused", x.shop(), 0);
        due("it is refused", Bench.shop(x, "x"), -1);
    }

    private static void nothing() {
        due("NOTHING", TurnedBoards.NOTHING, -1000000000000000L);
        StringBuilder eight = new StringBuilder(Bench.letter('a', 0, 0));
        for (String word : "a aa aaa aaaa aaaaa aaaaaa".split(" ")) {
            eight.append("word ").append(word).append(';');
        }
        TurnedBoards x = Bench.shopOf(eight.toString());
        due("an answer of -1 is one", Bench.ask(x, "least 0-1"), -1);
        due("the least answer is one", Bench.ask(x, "total 0-9999*9999"), -6000000);
        due("none", Bench.ask(x, "least"), TurnedBoards.NOTHING);
        due("none", x.doubt(0, 1, 0), TurnedBoards.NOTHING);
    }

    private static void twentyBytes() {
        // one board of six places: its image is 17 of the twenty bytes
        TurnedBoards x = Bench.shopOf(Bench.letter('a', 0, 1) + "word aaaaaa;board aaaaaa hand 0;");
        byte[] image = {0, 7, 0, 0, 1, 2, 3, 4, 5, 6, 7, 8, 9, 10, 11, 12, 0};
        int last = Bench.sealed(image)[16] & 255;
        due("20", x.feed(0x00070000, 0x01020304, 0x05060708, 0x090a0b0c, last << 24 | 0xffffff), 20);
        due("17 of them", x.end(17), true);
        due("they are an image", x.on(), true);
        due("bytes 0, 1", x.has(4), 7);
        for (int place = 0; place < 6; place++) {
            due("bytes of place " + place, x.glyph(0, place), (2 * place + 1) * 256 + 2 * place + 2);
        }
        // those of a second feed() stand behind those of the first: what is wrong is byte 20
        due("20", x.feed(0x6861696c, 0x20313b68, 0x61696c20, 0x323b2020, 0x2020200a), 20);
        due("40", x.feed(0x78202020, -1, MIN, MAX, 0), 40);
        due("a fault", x.shop(), NONE);
        due("its place", x.fault(1), 20);
        due("bytes of 255", x.feed(-1, -1, -1, -1, -1), 20);
        due("a fault", x.shop(), NONE);
        due("its place", x.fault(1), 0);
    }

    private static void fullTape() {
        TurnedBoards x = new TurnedBoards();
        for (int i = 1; i <= 79; i++) {
            due("feed() " + i, blanks(x), 20 * i);
        }
        due("just inside", blanks(x), 1600);
        due("not refused", x.status(0), 0);
        due("just outside", blanks(x), NONE);
        due("refused", x.status(0), 1);
        due("none of it came", x.end(1601), false);
        due("all is there", x.end(1600), true);
        due("1581 bytes", x.end(1581), true);
        due("1601 would be too many", blanks(x), NONE);
        due("none of it came", x.end(1582), false);
        due("1580 bytes", x.end(1580), true);
        due("1600 are not", x.feed(0x20202020, 0x20202020, 0x20202020, 0x20202020, 0x20202078), 1600);
        due("its last byte is read", x.shop(), NONE);
        due("its last byte is read", x.fault(1), 1599);
        due("refused in all", x.status(0), 4);
        due("1600 bytes with a statement at their end", Bench.shop(x, " ".repeat(1593) + "hail 1;"), 1);
    }

    private static void firstBytes() {
        TurnedBoards x = new TurnedBoards();
        due("end(0) of none", x.end(0), true);
        blanks(x);
        due("end(20) of 20", x.end(20), true);
        due("end(19) of 20", x.end(19), true);
        due("20 more", blanks(x), 39);
        due("end(0)", x.end(0), true);
        due("none are left", x.end(1), false);
        due("20 again", x.feed(0x6861696c, 0x20313b78, 0x20202020, 0x20202020, 0x20202020), 20);
        due("7 of them", x.end(7), true);
        due("the first ones", x.shop(), 1);
        due("nothing refused but one", x.status(0), 1);
    }

    private static void notSoMany() {
        TurnedBoards x = new TurnedBoards();
        due("end(1) of none", x.end(1), false);
        blanks(x);
        due("end(21) of 20", x.end(21), false);
        due("end(-1)", x.end(-1), false);
        due("the least number", x.end(MIN), false);
        due("the greatest number", x.end(MAX), false);
        due("all refused", x.status(0), 5);
        due("the tape is as it was", blanks(x), 40);
        due("end(40) of 40", x.end(40), true);
        due("end(39) of 40", x.end(39), true);
        due("end(40) of 39", x.end(40), false);
        due("all refused", x.status(0), 6);
    }
}
