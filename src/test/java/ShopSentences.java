/** Promises 4 and 5: what a SHOP may tell, and how much. */
final class ShopSentences {
    private static final int NONE = TurnedBoards.NONE;
    private static final String OWN = "letter hand is word board doubt rain blank hail more less ink column row place "
            + "near year number long line at or and not all min max forgive";
    /** One letter without strokes: a doubt is as many strokes as are there. */
    private static final String EMPTY = "letter a hand 0 is 0 0 0 0 0;";
    private static final String FULL = "letter a hand 0 is 7 7 7 7 7;";

    private ShopSentences() {
    }

    static void test(Sentences s) {
        s.holds(4, "{ STATEMENT ; } (60 at most)", ShopSentences::sixtyStatements);
        s.holds(4, "how many STATEMENTS (0 without)", ShopSentences::noStatements);
        s.holds(4, "a NAME of one letter", ShopSentences::nameOfOneLetter);
        s.holds(4, "not told of this HAND already", ShopSentences::letterToldOnceOfEachHand);
        s.holds(4, "0 or 1;", ShopSentences::hands);
        s.holds(4, "five rows of strokes", ShopSentences::fiveRows);
        s.holds(4, "0 .. 7 each", ShopSentences::rowNumbers);
        s.holds(4, "12 of each HAND", ShopSentences::twelveLetters);
        s.holds(4, "word NAME (1 to 6 letters", ShopSentences::wordLengths);
        s.holds(4, "each told of HAND 0; not told already", ShopSentences::wordsOfToldLetters);
        s.holds(4, "8 WORDS", ShopSentences::eightWords);
        s.holds(4, "a WORD, of whose letters each is told of that HAND", ShopSentences::boardsOfTheHand);
        s.holds(4, "4 BOARDS", ShopSentences::fourBoards);
        s.holds(4, "doubt SUM, rain TEST (one each)", ShopSentences::oneEach);
        s.holds(4, "forgive N, blank N (0 .. 99 each; the last ones count, 2, 9 without)", ShopSentences::settings);
        s.holds(4, "hail N (0 .. 100; the last one counts, 0 without)", ShopSentences::hail);
        s.holds(4, "OWN WORDS, which no NAME is", ShopSentences::ownWords);
        s.holds(4, "Blanks (10, 32) are where one likes (words and numbers side by side need one)",
                ShopSentences::blanks);
        s.holds(4, "The tape (it goes) is THE SHOP", ShopSentences::tapeGoes);
        s.holds(4, "NONE, refused (1), with a FAULT (all stays)", ShopSentences::allStays);
        s.holds(4, "Without one all is as at first, nothing is KEPT or can be undone; the seed stays.",
                ShopSentences::allAsAtFirst);
        s.holds(5, "Of the latest shop() or ask(): its FAULT (what 0; 0 without, and ahead of any), its place (1; NONE "
                + "without). NONE for another what.", ShopSentences::faultAnswers);
    }

    private static void due(String what, long got, long want) {
        Bench.due(what, got, want);
    }

    private static void due(String what, boolean got, boolean want) {
        Bench.due(what, got, want);
    }

    private static void told(String text, int statements) {
        TurnedBoards x = new TurnedBoards();
        due("shop() of " + text, Bench.shop(x, text), statements);
        due("fault(0) of " + text, x.fault(0), 0);
        due("fault(1) of " + text, x.fault(1), NONE);
    }

    private static String letters(int many, int hand) {
        StringBuilder text = new StringBuilder();
        for (int i = 0; i < many; i++) {
            text.append(Bench.letter((char) ('a' + i), hand, i));
        }
        return text.toString();
    }

    private static void sixtyStatements() {
        told("hail 1;".repeat(59), 59);
        told("hail 1;".repeat(60), 60);
        told("hail 1;".repeat(60) + " \n ", 60);
        Bench.faulty("hail 1;".repeat(61), 5, 420);
    }

    private static void noStatements() {
        told("", 0);
        told(" ", 0);
        told("\n", 0);
        told("hail 1;", 1);
        Bench.faulty(";", 1, 0);
    }

    private static void nameOfOneLetter() {
        told(Bench.letter('a', 0, 1), 1);
        told(Bench.letter('z', 0, 1), 1);
        Bench.faulty("letter ab hand 0 is 1 1 1 1 1;", 1, 8);
        Bench.faulty("letter  hand 0 is 1 1 1 1 1;", 1, 8);
        Bench.faulty("letter 1 hand 0 is 1 1 1 1 1;", 1, 7);
        Bench.faulty("letter ` hand 0 is 1 1 1 1 1;", 1, 7);
        Bench.faulty("letter { hand 0 is 1 1 1 1 1;", 1, 7);
    }

    private static void letterToldOnceOfEachHand() {
        told(Bench.letter('a', 0, 1) + Bench.letter('a', 1, 1) + Bench.letter('b', 0, 1), 3);
        Bench.faultyBehind(Bench.letter('a', 0, 1), Bench.letter('a', 0, 2), 2, 14);
        Bench.faultyBehind(Bench.letter('a', 0, 1) + Bench.letter('a', 1, 1), Bench.letter('a', 1, 1), 2, 14);
    }

    private static void hands() {
        told("letter a hand 0 is 1 1 1 1 1;letter a hand 1 is 1 1 1 1 1;", 2);
        told("letter a hand 0000 is 1 1 1 1 1;letter a hand 0001 is 1 1 1 1 1;", 2);
        Bench.faulty("letter a hand 2 is 1 1 1 1 1;", 2, 14);
        Bench.faulty("letter a hand 9999 is 1 1 1 1 1;", 2, 14);
        String word = FULL + "letter a hand 1 is 1 1 1 1 1;word a;";
        told(word + "board a hand 0;board a hand 1;", 5);
        Bench.faultyBehind(word, "board a hand 2;", 2, 13);
    }

    private static void fiveRows() {
        told("letter a hand 0 is 1 2 3 4 5;", 1);
        Bench.faulty("letter a hand 0 is 1 2 3 4;", 1, 26);
        Bench.faulty("letter a hand 0 is 1 2 3 4 5 6;", 1, 29);
    }

    private static void rowNumbers() {
        for (int row = 0; row < 5; row++) {
            StringBuilder least = new StringBuilder("letter a hand 0 is");
            StringBuilder most = new StringBuilder(least);
            StringBuilder beyond = new StringBuilder(least);
            for (int r = 0; r < 5; r++) {
                least.append(r == row ? " 0" : " 1");
                most.append(r == row ? " 7" : " 1");
                beyond.append(r == row ? " 8" : " 1");
            }
            told(least + ";", 1);
            told(most + ";", 1);
            Bench.faulty(beyond + ";", 2, 19 + 2 * row);
            due("row " + row + " of 0", Bench.shopOf(least + ";").letter(0, 0, 1) >> 3 * row & 7, 0);
            due("row " + row + " of 7", Bench.shopOf(most + ";").letter(0, 0, 1) >> 3 * row & 7, 7);
        }
    }

    private static void twelveLetters() {
        due("11", Bench.shopOf(letters(11, 0)).has(0), 11);
        due("12", Bench.shopOf(letters(12, 0)).has(0), 12);
        TurnedBoards both = Bench.shopOf(letters(12, 0) + letters(12, 1));
        due("12 of hand 0", both.has(0), 12);
        due("12 of hand 1, too", both.has(1), 12);
        Bench.faultyBehind(letters(12, 0), Bench.letter('z', 0, 0), 5, 14);
        Bench.faultyBehind(letters(12, 1), Bench.letter('z', 1, 0), 5, 14);
        Bench.faultyBehind(letters(12, 0) + letters(12, 1), Bench.letter('z', 1, 0), 5, 14);
        told(letters(12, 0) + Bench.letter('z', 1, 0), 13);
    }

    private static void wordLengths() {
        told(FULL + "word a;", 2);
        told(FULL + "word aaaaa;", 2);
        told(FULL + "word aaaaaa;", 2);
        Bench.faultyBehind(FULL, "word aaaaaaa;", 1, 11);
        Bench.faultyBehind(FULL, "word ;", 1, 5);
    }

    private static void wordsOfToldLetters() {
        String two = FULL + "letter b hand 1 is 1 1 1 1 1;";
        told(two + "word a;word aa;word aaa;", 5);
        Bench.faultyBehind(two, "word b;", 3, 5);
        Bench.faultyBehind(two, "word aaaaab;", 3, 5);
        Bench.faulty("word a;" + FULL, 3, 5);
        Bench.faultyBehind(two + "word a;word aa;", "word aa;", 3, 5);
        Bench.faultyBehind(two + "word a;word aa;", "word a;", 3, 5);
    }

    private static void eightWords() {
        StringBuilder text = new StringBuilder(letters(8, 0));
        for (int i = 0; i < 7; i++) {
            text.append("word ").append((char) ('a' + i)).append(';');
        }
        due("7", Bench.shopOf(text.toString()).has(2), 7);
        text.append("word h;");
        due("8", Bench.shopOf(text.toString()).has(2), 8);
        Bench.faultyBehind(text.toString(), "word aa;", 5, 0);
        Bench.faultyBehind(text.toString(), "\n word 1", 5, 2);
    }

    private static void boardsOfTheHand() {
        String text = FULL + "letter b hand 0 is 1 1 1 1 1;letter a hand 1 is 1 1 1 1 1;word a;word ab;";
        told(text + "board a hand 0;board a hand 1;board ab hand 0;", 8);
        Bench.faultyBehind(text, "board ab hand 1;", 2, 14);
        Bench.faultyBehind(text, "board b hand 0;", 3, 6);
        told(text + "letter b hand 1 is 1 1 1 1 1;board ab hand 1;", 7);
    }

    private static void fourBoards() {
        String text = FULL + "word a;";
        due("none", Bench.shopOf(text).has(3), 0);
        due("3", Bench.shopOf(text + "board a hand 0;".repeat(3)).has(3), 3);
        due("4", Bench.shopOf(text + "board a hand 0;".repeat(4)).has(3), 4);
        Bench.faultyBehind(text + "board a hand 0;".repeat(4), "board a hand 0;", 5, 0);
        Bench.faultyBehind(text + "board a hand 0;".repeat(4), " board", 5, 1);
    }

    private static void oneEach() {
        told("doubt more;rain all;", 2);
        told("rain all;doubt more;", 2);
        Bench.faulty("doubt more;doubt more;", 5, 11);
        Bench.faulty("rain all; rain all;", 5, 10);
        Bench.faulty("doubt more;rain all;doubt", 5, 20);
        Bench.faulty("doubt more;rain all;rain", 5, 20);
        // one each of every text: what an earlier one told, or what a fault cut short, does not count
        TurnedBoards x = new TurnedBoards();
        for (int i = 0; i < 4; i++) {
            due("told by each text", Bench.shop(x, "doubt more;rain all;"), 2);
            due("a fault behind both", Bench.shop(x, "doubt more;rain all;x"), NONE);
        }
    }

    private static int readAt(String text, int strokes) {
        return Bench.shopOf(text).reads(0, (1 << strokes) - 1, 0);
    }

    private static void settings() {
        due("2 without", readAt(EMPTY, 2), 1);
        due("3 is more than 2", readAt(EMPTY, 3), 0);
        due("forgive 0: none", readAt(EMPTY + "forgive 0;", 0), 1);
        due("forgive 0: one", readAt(EMPTY + "forgive 0;", 1), 0);
        due("forgive 99: 99", readAt(EMPTY + "doubt more*9;forgive 99;", 11), 1);
        due("forgive 99: 108", readAt(EMPTY + "doubt more*9;forgive 99;", 12), 0);
        due("the last counts: 1", readAt(EMPTY + "forgive 5;forgive 1;", 1), 1);
        due("the last counts: 2", readAt(EMPTY + "forgive 5;forgive 1;", 2), 0);
        Bench.faulty("forgive 100;", 2, 8);
        Bench.faulty("blank 100;", 2, 6);
        // nobody reads it, so that each letter stands alone, in doubt by a blank
        String alone = EMPTY + "word a;doubt 100;";
        due("9 without", Bench.shopOf(alone).line(0, 0, 0, 0), 18);
        due("blank 0", Bench.shopOf(alone + "blank 0;").line(0, 0, 0, 0), 0);
        due("blank 99", Bench.shopOf(alone + "blank 99;").line(0, 0, 0, 0), 198);
        due("the last counts", Bench.shopOf(alone + "blank 99;blank 7;").line(0, 0, 0, 0), 14);
    }

    private static int hailOf(String text, int seed) {
        TurnedBoards x = Bench.shopOf(FULL + "word a;board a hand 0;" + text);
        x.seed(seed);
        return x.chance(1);
    }

    private static void hail() {
        for (int seed = 0; seed < 300; seed++) {
            due("0 without", hailOf("", seed), 0);
            due("hail 0: never", hailOf("hail 0;", seed), 0);
            due("hail 100: always", hailOf("hail 100;", seed), 1);
            due("the last counts", hailOf("hail 100;hail 0;", seed), 0);
        }
        Bench.faulty("hail 101;", 2, 5);
    }

    private static void ownWords() {
        String alphabet = "letter f hand 0 is 1 1 1 1 1;letter i hand 0 is 1 1 1 1 1;letter r hand 0 is 1 1 1 1 1;"
                + "letter s hand 0 is 1 1 1 1 1;letter t hand 0 is 1 1 1 1 1;letter l hand 0 is 1 1 1 1 1;"
                + "letter a hand 0 is 1 1 1 1 1;letter o hand 0 is 1 1 1 1 1;letter e hand 0 is 1 1 1 1 1;"
                + "letter n hand 0 is 1 1 1 1 1;letter m hand 0 is 1 1 1 1 1;";
        for (String own : OWN.split(" ")) {
            Bench.faulty("letter " + own + " hand 0 is 1 1 1 1 1;", 1, 7);
            Bench.faultyBehind(alphabet, "word " + own + ";", 1, 5);
            Bench.faultyBehind(alphabet, "board " + own + " hand 0;", 1, 6);
        }
        // the words of questions are none, nor is what begins or ends as one, or what one begins with
        for (String name : "first last often total most least ist ate lat ora mori ro a".split(" ")) {
            told(alphabet + "word " + name + ";board " + name + " hand 0;", 13);
        }
    }

    private static void blanks() {
        told("hail 1;", 1);
        told(" \n hail \n 1 \n ; \n", 1);
        told("hail\n1;hail 2;", 2);
        told("rain row=0 and[not[column<2]or near>1];", 1);
        told("rain\nrow = 0\nand [ not [ column < 2 ] or near > 1 ] ;", 1);
        for (int octet = 0; octet < 256; octet++) {
            String text = "hail 1" + (char) octet + ";";
            if (octet == 10 || octet == 32 || octet >= '0' && octet <= '9') {
                told(text, 1);
            } else {
                Bench.faulty(text, 1, octet == ';' ? 7 : 6);
            }
        }
        Bench.faulty("hail1;", 1, 4);
        Bench.faulty("rain row=0and row=1;", 1, 10);
        Bench.faulty("doubt 1more;", 1, 7);
        Bench.faulty("letter a hand0 is 1 1 1 1 1;", 1, 13);
        Bench.faulty("letter a hand 0is 1 1 1 1 1;", 1, 15);
    }

    private static void tapeGoes() {
        TurnedBoards x = new TurnedBoards();
        Bench.shop(x, "hail 1;");
        due("it is gone", x.end(1), false);
        due("it begins anew", x.feed(0, 0, 0, 0, 0), 20);
        due("with a fault", x.shop(), NONE);
        due("it is gone, too", x.end(1), false);
        due("it begins anew", x.feed(0, 0, 0, 0, 0), 20);
    }

    private static void allStays() {
        String old = FULL + "letter b hand 1 is 1 1 1 1 1;word a;word aa;board aa hand 0;rain row=0;hail 100;forgive 0;";
        TurnedBoards x = Bench.shopOf(old);
        TurnedBoards y = Bench.shopOf(old);
        x.chance(2);
        y.chance(2);
        x.stroke(0, 1, 0, 1);
        y.stroke(0, 1, 0, 1);
        String other = "letter c hand 0 is 1 1 1 1 1;letter d hand 0 is 1 1 1 1 1;word cd;board cd hand 0;"
                + "board cd hand 0;rain all;doubt 5;forgive 9;blank 1;hail 0;";
        due("a fault at the end", Bench.shop(x, other + "x"), NONE);
        due("refused", x.status(1), 1);
        for (int what = 0; what <= 7; what++) {
            due("has(" + what + ")", x.has(what), y.has(what));
        }
        due("a letter", x.letter(0, 0, 1), 32767);
        due("its doubt", x.doubt(0, 0, 0), 30);
        due("a word", x.word(1, 1), 1);
        due("a line", x.line(0, 1, 0, 0), y.line(0, 1, 0, 0));
        due("a glyph", x.glyph(0, 0), y.glyph(0, 0));
        due("what is kept", x.kept(0, 2), y.kept(0, 2));
        due("the seed, the hail", x.chance(5), y.chance(5));
        due("the rain", x.glyph(0, 1), y.glyph(0, 1));
        due("a fault once more", Bench.shop(x, "hail 101;"), NONE);
        due("refused", x.status(1), 2);
        due("no fault is not refused", Bench.shop(x, "hail 100;"), 1);
        due("refused", x.status(1), 2);
    }

    private static void allAsAtFirst() {
        String text = FULL + "word a;board a hand 0;rain row=0;hail 100;forgive 0;";
        TurnedBoards x = Bench.shopOf(text);
        x.seed(5);
        x.chance(3);
        due("something is kept", x.has(6) > 0, true);
        due("something can be undone", x.has(7), 1);
        Bench.shop(x, text);
        due("the year", x.has(4), 0);
        due("the strokes", x.has(5), 15);
        due("nothing is kept", x.has(6), 0);
        due("nothing is kept", x.kept(0, 0), NONE);
        due("nothing can be undone", x.has(7), 0);
        due("nothing can be undone", x.undo(), false);
        // the seed goes on: as if the board had been painted by hand
        TurnedBoards y = Bench.shopOf(text);
        y.seed(5);
        y.chance(3);
        y.paint(0, 0, 0);
        x.chance(3);
        y.chance(3);
        due("the seed stays", x.glyph(0, 0), y.glyph(0, 0));
        // an empty text is a shop, too: what the old one told is gone
        due("no statements", Bench.shop(x, ""), 0);
        for (int what = 0; what <= 7; what++) {
            due("has(" + what + ")", x.has(what), 0);
        }
        Bench.shop(x, EMPTY);
        due("the old forgive is gone", x.reads(0, 3, 0), 1);
        nothingOfOlderShops();
    }

    /** Nothing of the shop before the last, nor of a text with a fault, comes back. */
    private static void nothingOfOlderShops() {
        String old = FULL + "letter b hand 1 is 7 7 7 7 7;word a;word aa;board a hand 0;board aa hand 0;doubt 7;rain all;"
                + "forgive 9;blank 1;hail 100;";
        String plain = FULL + "word a;board a hand 0;";
        for (String between : new String[] {"", old, old + "x", plain, plain + "x"}) {
            TurnedBoards x = Bench.shopOf(old);
            x.line(0, 0, 0, 0);
            x.best(0);
            Bench.shop(x, between);
            x.line(0, 0, 0, 0);
            x.best(0);
            due("a plain shop", Bench.shop(x, plain), 3);
            due("letters of hand 1", x.has(1), 0);
            due("words", x.has(2), 1);
            due("boards", x.has(3), 1);
            due("doubt", x.doubt(0, 0, 32766), 2);
            due("forgive", x.reads(0, 32764, 0), 0);
            due("a line", x.line(0, 0, 0, 0), 0);
            due("the same by a question", Bench.ask(x, "total line 0"), 0);
            due("hail", x.chance(100), 0);
            due("rain", x.has(5), 15);
            Bench.shop(x, EMPTY + "word a;doubt 3;forgive 2;");
            due("blank", x.line(0, 0, 0, 0), 18);
            due("the same by a question", Bench.ask(x, "total line 0"), 18);
        }
    }

    private static void faultAnswers() {
        TurnedBoards x = new TurnedBoards();
        due("ahead of any", x.fault(0), 0);
        due("its place", x.fault(1), NONE);
        for (int what : new int[] {-1, 2, Integer.MIN_VALUE, Integer.MAX_VALUE}) {
            due("fault(" + what + ")", x.fault(what), NONE);
        }
        Bench.shop(x, "x");
        due("of shop()", x.fault(0), 1);
        due("its place", x.fault(1), 0);
        due("fault(2)", x.fault(2), NONE);
        Bench.ask(x, "often all");
        due("without", x.fault(0), 0);
        due("its place", x.fault(1), NONE);
        Bench.ask(x, "often ");
        due("of ask()", x.fault(0), 1);
        due("its place", x.fault(1), 6);
        x.years(0);
        x.on();
        due("no other call has any", x.fault(1), 6);
        Bench.shop(x, "");
        due("without", x.fault(0), 0);
        due("its place", x.fault(1), NONE);
    }
}
