/** Promises 6 to 11: what is told, and what is there now. */
final class ToldSentences {
    private static final int NONE = TurnedBoards.NONE;
    private static final int[] FAR = {-1, Integer.MIN_VALUE, Integer.MAX_VALUE};
    private static final String FULL = "letter a hand 0 is 7 7 7 7 7;word a;board a hand 0;forgive 0;";

    private ToldSentences() {
    }

    static void test(Sentences s) {
        s.holds(6, "How many there are: 0, 1 letters of HAND 0, 1;", ToldSentences::howManyLetters);
        s.holds(6, "2 WORDS,", ToldSentences::howManyWords);
        s.holds(6, "3 BOARDS,", ToldSentences::howManyBoards);
        s.holds(6, "4 YEAR,", ToldSentences::whichYear);
        s.holds(6, "5 strokes on all BOARDS,", ToldSentences::howManyStrokes);
        s.holds(6, "6 what is told as KEPT,", ToldSentences::howManyKept);
        s.holds(6, "7 ACTS that can be undone.", ToldSentences::howManyActs);
        s.holds(6, "NONE for others.", ToldSentences::hasNothingElse);
        s.holds(7, "A GLYPH is 15 strokes, there or not, as bits: bit 3 r + c for row r, from above, column c, from the "
                + "left: of a row told as a number bit 2 is the left one, bit 0 the right one.",
                ToldSentences::bitsOfRows);
        s.holds(7, "Of the k-th letter of a HAND, as told: 0 which it is (1 .. 26), 1 its GLYPH, 2 how many strokes. NONE "
                + "when there is none such, or for others.", ToldSentences::letters);
        s.holds(8, "The letter (1 .. 26) at place k of a WORD; 0 behind it (to place 5); NONE when there is none such.",
                ToldSentences::words);
        s.holds(9, "Of a BOARD: 0 its WORD, 1 its HAND, 2 how many places. NONE when there is none such, or for others.",
                ToldSentences::boards);
        s.holds(10, "A BOARD has a GLYPH for each place, at first those of its WORD in its HAND",
                ToldSentences::glyphsAtFirst);
        s.holds(10, "The GLYPH at a place of a BOARD; NONE when there is none such.", ToldSentences::glyphs);
        s.holds(11, "KEPT is each BOARD that says, seen 0, something else behind a YEAR than ahead of it (of hail and "
                + "rain): YEAR, BOARD, how many of its places say nothing", ToldSentences::whatIsKept);
        s.holds(11, "the last 40 are told.", ToldSentences::last40);
        s.holds(11, "Of what is told as KEPT, the k-th from the oldest on: 0 YEAR, 1 BOARD, 2 how many places say nothing. "
                + "NONE when there is none such, or for others.", ToldSentences::kept);
    }

    private static void due(String what, long got, long want) {
        Bench.due(what, got, want);
    }

    private static void due(String what, boolean got, boolean want) {
        Bench.due(what, got, want);
    }

    private static String letters(int many, int hand) {
        StringBuilder text = new StringBuilder();
        for (int i = 0; i < many; i++) {
            text.append(Bench.letter((char) ('a' + i), hand, 1 << i));
        }
        return text.toString();
    }

    private static void howManyLetters() {
        for (int many : new int[] {0, 1, 11, 12}) {
            TurnedBoards x = Bench.shopOf(letters(many, 0) + letters(12 - many, 1));
            due("of hand 0", x.has(0), many);
            due("of hand 1", x.has(1), 12 - many);
        }
    }

    private static void howManyWords() {
        String text = letters(1, 0);
        due("none", Bench.shopOf(text).has(2), 0);
        text = letters(8, 0) + "word a;word b;word c;word d;word e;word f;word g;";
        due("7", Bench.shopOf(text).has(2), 7);
        due("8", Bench.shopOf(text + "word h;").has(2), 8);
    }

    private static void howManyBoards() {
        String text = letters(1, 0) + "word a;";
        for (int many = 0; many <= 4; many++) {
            due("boards", Bench.shopOf(text + "board a hand 0;".repeat(many)).has(3), many);
        }
    }

    private static void whichYear() {
        TurnedBoards x = Bench.shopOf(FULL);
        due("at first", x.has(4), 0);
        x.years(1);
        due("one", x.has(4), 1);
        Bench.pass(x, 998);
        due("the last", x.has(4), 999);
        x.years(1);
        due("none behind it", x.has(4), 999);
    }

    private static void howManyStrokes() {
        due("no boards", Bench.shopOf(letters(3, 0) + "word a;").has(5), 0);
        due("no strokes", Bench.shopOf(Bench.letter('a', 0, 0) + "word a;board a hand 0;").has(5), 0);
        String all = Bench.letter('a', 0, 32767) + "word aaaaaa;";
        TurnedBoards x = Bench.shopOf(all + "board aaaaaa hand 0;".repeat(4));
        due("all that can be", x.has(5), 360);
        x.stroke(3, 5, 14, 0);
        due("one less", x.has(5), 359);
        Bench.shop(x, all + "board aaaaaa hand 0;");
        due("one board", x.has(5), 90);
        x.years(1);
        due("no rain", x.has(5), 90);
    }

    /** Paints the board, and lets a year of rain take all of it: one more is KEPT. */
    private static void keep(TurnedBoards x, int word, int times) {
        for (int i = 0; i < times; i++) {
            due("painted", x.paint(0, word, 0), true);
            due("lost", x.years(1), 15);
        }
    }

    private static void howManyKept() {
        TurnedBoards x = Bench.shopOf(FULL + "rain all;");
        due("none", x.has(6), 0);
        keep(x, 0, 1);
        due("one", x.has(6), 1);
        x.years(5);
        due("nothing else said", x.has(6), 1);
        keep(x, 0, 38);
        due("39", x.has(6), 39);
        keep(x, 0, 1);
        due("40", x.has(6), 40);
        keep(x, 0, 1);
        due("41", x.has(6), 40);
    }

    private static void howManyActs() {
        TurnedBoards x = Bench.shopOf(FULL);
        due("none", x.has(7), 0);
        for (int i = 1; i <= 22; i++) {
            x.years(1);
            due("acts", x.has(7), Math.min(20, i));
        }
        x.years(0);
        due("a refused one is none", x.has(7), 20);
        x.undo();
        due("one less", x.has(7), 19);
    }

    private static void hasNothingElse() {
        TurnedBoards x = Bench.shopOf(FULL);
        due("has(8)", x.has(8), NONE);
        due("has(7)", x.has(7), 0);
        for (int what : FAR) {
            due("has(" + what + ")", x.has(what), NONE);
        }
    }

    private static void bitsOfRows() {
        for (int r = 0; r < 5; r++) {
            for (int c = 0; c < 3; c++) {
                StringBuilder text = new StringBuilder("letter a hand 0 is");
                for (int row = 0; row < 5; row++) {
                    text.append(' ').append(row == r ? 4 >> c : 0);
                }
                due("row " + r + ", column " + c, Bench.shopOf(text + ";").letter(0, 0, 1), 1 << 3 * r + c);
            }
        }
    }

    private static void letters() {
        String text = letters(12, 0).replace("letter l", "letter z") + Bench.letter('m', 1, 0)
                + Bench.letter('a', 1, 32767);
        TurnedBoards x = Bench.shopOf(text);
        due("the first", x.letter(0, 0, 0), 1);
        due("the last", x.letter(0, 11, 0), 26);
        due("as told", x.letter(1, 0, 0), 13);
        due("as told", x.letter(1, 1, 0), 1);
        due("the least glyph", x.letter(1, 0, 1), 0);
        due("the greatest glyph", x.letter(1, 1, 1), 32767);
        due("a glyph", x.letter(0, 11, 1), 2048);
        due("the fewest strokes", x.letter(1, 0, 2), 0);
        due("the most strokes", x.letter(1, 1, 2), 15);
        due("one stroke", x.letter(0, 11, 2), 1);
        due("k 12", x.letter(0, 12, 0), NONE);
        due("k 2 of hand 1", x.letter(1, 2, 0), NONE);
        due("hand 2", x.letter(2, 0, 0), NONE);
        due("what 3", x.letter(0, 0, 3), NONE);
        for (int n : FAR) {
            due("hand " + n, x.letter(n, 0, 0), NONE);
            due("k " + n, x.letter(0, n, 0), NONE);
            due("what " + n, x.letter(0, 0, n), NONE);
        }
    }

    private static void words() {
        String text = letters(7, 0) + Bench.letter('z', 0, 0)
                + "word a;word az;word abc;word abcd;word abcde;word abcdez;word z;word zz;";
        TurnedBoards x = Bench.shopOf(text);
        for (int k = 0; k <= 5; k++) {
            due("a word of one letter", x.word(0, k), k == 0 ? 1 : 0);
            due("a word of five", x.word(4, k), k < 5 ? k + 1 : 0);
            due("a word of six", x.word(5, k), k < 5 ? k + 1 : 26);
        }
        due("the eighth", x.word(7, 1), 26);
        due("place 6", x.word(5, 6), NONE);
        due("place 6 of a short one", x.word(0, 6), NONE);
        due("word 8", x.word(8, 0), NONE);
        due("one beyond those told", Bench.shopOf(FULL).word(1, 0), NONE);
        for (int n : FAR) {
            due("word " + n, x.word(n, 0), NONE);
            due("place " + n, x.word(0, n), NONE);
        }
    }

    private static void boards() {
        String text = letters(8, 0) + letters(1, 1) + "word a;word ab;word ac;word ad;word ae;word af;word ag;word abcdef;";
        TurnedBoards x = Bench.shopOf(text + "board abcdef hand 0;board a hand 1;board a hand 0;board ab hand 0;");
        int[][] want = {{7, 0, 6}, {0, 1, 1}, {0, 0, 1}, {1, 0, 2}};
        for (int b = 0; b < 4; b++) {
            for (int what = 0; what <= 2; what++) {
                due("board(" + b + ", " + what + ")", x.board(b, what), want[b][what]);
            }
            due("what 3", x.board(b, 3), NONE);
        }
        due("board 4", x.board(4, 0), NONE);
        due("one beyond those told", Bench.shopOf(FULL).board(1, 0), NONE);
        for (int n : FAR) {
            due("board " + n, x.board(n, 0), NONE);
            due("what " + n, x.board(0, n), NONE);
        }
    }

    private static void glyphsAtFirst() {
        String text = Bench.letter('a', 0, 32767) + Bench.letter('b', 0, 0) + Bench.letter('b', 1, 5)
                + Bench.letter('a', 1, 6) + "word ab;board ab hand 0;board ab hand 1;";
        TurnedBoards x = Bench.shopOf(text);
        due("place 0 in hand 0", x.glyph(0, 0), 32767);
        due("place 1 in hand 0", x.glyph(0, 1), 0);
        due("place 0 in hand 1", x.glyph(1, 0), 6);
        due("place 1 in hand 1", x.glyph(1, 1), 5);
    }

    private static void glyphs() {
        String text = letters(6, 0) + "word a;word abcdef;board a hand 0;board abcdef hand 0;";
        TurnedBoards x = Bench.shopOf(text);
        due("the only place", x.glyph(0, 0), 1);
        due("behind it", x.glyph(0, 1), NONE);
        due("the last of six", x.glyph(1, 5), 32);
        due("behind it", x.glyph(1, 6), NONE);
        due("board 2", x.glyph(2, 0), NONE);
        for (int n : FAR) {
            due("board " + n, x.glyph(n, 0), NONE);
            due("place " + n, x.glyph(0, n), NONE);
        }
        x.paint(0, 1, 0);
        due("painted longer", x.glyph(0, 5), 32);
        x.paint(0, 0, 0);
        due("painted shorter", x.glyph(0, 1), NONE);
    }

    private static void whatIsKept() {
        String six = Bench.letter('a', 0, 32767) + "word aaaaaa;board aaaaaa hand 0;board aaaaaa hand 0;";
        TurnedBoards all = Bench.shopOf(six + "rain all;");
        all.years(1);
        due("both boards", all.has(6), 2);
        for (int b = 0; b < 2; b++) {
            due("year", all.kept(b, 0), 0);
            due("board", all.kept(b, 1), b);
            due("all places say nothing", all.kept(b, 2), 6);
        }
        TurnedBoards one = Bench.shopOf(six + "rain place=5;");
        one.years(1);
        due("one place says nothing", one.kept(1, 2), 1);
        // a doubt of two is forgiven, of four is not: one stroke a year
        String rows = Bench.letter('a', 0, 7) + "word a;board a hand 0;rain column=year;";
        TurnedBoards slow = Bench.shopOf(rows);
        slow.years(1);
        due("it says the same", slow.has(6), 0);
        slow.years(1);
        due("it says nothing", slow.has(6), 1);
        due("in year 1", slow.kept(0, 0), 1);
        slow.years(1);
        due("nothing as before", slow.has(6), 1);
        // another letter: none says nothing
        TurnedBoards other = Bench.shopOf(Bench.letter('a', 0, 7) + Bench.letter('b', 0, 3)
                + "word a;board a hand 0;rain column=2;forgive 0;");
        other.years(1);
        due("b for a", other.kept(0, 2), 0);
        // of hail, too; not of painting and scraping
        TurnedBoards hail = Bench.shopOf(FULL + "hail 100;");
        hail.chance(1);
        due("by hail", hail.has(6), 1);
        TurnedBoards hand = Bench.shopOf(FULL);
        hand.stroke(0, 0, 0, 0);
        hand.years(1);
        due("not by hand", hand.has(6), 0);
        // turned it says a no more, seen 0 it still does
        TurnedBoards turned = Bench.shopOf(Bench.letter('a', 0, 1 | 1 << 13 | 1 << 14)
                + "word a;board a hand 0;rain row=0;forgive 3;");
        due("turned", turned.says(0, 1, 0, 0), 1);
        turned.years(1);
        due("turned a year later", turned.says(0, 1, 0, 0), 0);
        due("seen 0 a year later", turned.says(0, 0, 0, 0), 1);
        due("seen 0 alone counts", turned.has(6), 0);
        due("the last year", lastKeptYear(), 998);
    }

    private static int lastKeptYear() {
        TurnedBoards x = Bench.shopOf(FULL + "rain year=998;");
        Bench.pass(x, 999);
        return x.kept(0, 0);
    }

    private static void last40() {
        TurnedBoards x = Bench.shopOf("letter a hand 0 is 7 7 7 7 7;word aa;word a;board a hand 0;rain all;");
        keep(x, 1, 39);
        due("the oldest of 39", x.kept(0, 0), 0);
        due("the latest of 39", x.kept(38, 0), 38);
        keep(x, 1, 1);
        due("the oldest of 40", x.kept(0, 0), 0);
        due("the latest of 40", x.kept(39, 0), 39);
        keep(x, 1, 1);
        due("the oldest of 41", x.kept(0, 0), 1);
        due("the latest of 41", x.kept(39, 0), 40);
        keep(x, 1, 45);
        due("the oldest of 86", x.kept(0, 0), 46);
        due("the latest of 86", x.kept(39, 0), 85);
        due("none behind it", x.kept(40, 0), NONE);
        due("its word is still that", x.board(0, 0), 1);
        // an undone year is not kept, and what it had pushed out is told again
        x.undo();
        due("the latest of 85", x.kept(39, 0), 84);
        due("the oldest of 85", x.kept(0, 0), 45);
    }

    private static void kept() {
        TurnedBoards x = Bench.shopOf("letter a hand 0 is 7 7 7 7 7;word aa;board aa hand 0;board aa hand 0;forgive 0;"
                + "rain place=year;");
        due("none yet", x.kept(0, 0), NONE);
        x.years(2);
        int[][] want = {{0, 0, 1}, {0, 1, 1}, {1, 0, 2}, {1, 1, 2}};
        for (int k = 0; k < 4; k++) {
            for (int what = 0; what <= 2; what++) {
                due("kept(" + k + ", " + what + ")", x.kept(k, what), want[k][what]);
            }
            due("what 3", x.kept(k, 3), NONE);
        }
        due("k 4", x.kept(4, 0), NONE);
        for (int n : FAR) {
            due("k " + n, x.kept(n, 0), NONE);
            due("what " + n, x.kept(0, n), NONE);
        }
    }
}
