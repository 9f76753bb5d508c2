/** Promises 4, 14, 17, 28, 30: the sentences that tell how a text is built, what reads, what is an ACT. */
final class GrammarSentences {
    private static final String FULL = "letter a hand 0 is 7 7 7 7 7;";
    private static final String LETTER = "letter a hand 0 is 1 2 3 4 5 ;";
    private static final String BOARD = "board a hand 0 ;";

    private GrammarSentences() {
    }

    static void test(Sentences s) {
        s.holds(4, "A SHOP is a text: { STATEMENT ; } (60 at most): letter NAME hand N is N N N N N (a NAME of one letter",
                GrammarSentences::letterStatement);
        s.holds(4, "word NAME (1 to 6 letters, each told of HAND 0; not told already; 8 WORDS); board NAME hand N (a WORD",
                GrammarSentences::boardStatement);
        s.holds(4, "doubt SUM, rain TEST (one each); forgive N, blank N (0 .. 99 each; the last ones count, 2, 9 without), "
                + "hail N (", GrammarSentences::anyOrder);
        s.holds(4, "TEST: BOTH { or BOTH }. BOTH: FACT { and FACT }. FACT:", GrammarSentences::andAheadOfOr);
        s.holds(13, "SUM: PRODUCT { + or - PRODUCT }. PRODUCT: PART { * or / PART }. PART: N (1 to 4 digits); ( SUM ) ; min "
                + "( SUM , SUM ) ; max ( SUM , SUM ) ;", GrammarSentences::productsAheadOfSums);
        s.holds(4, "in doubt: more; less; ink; in rain: column; row; place; near; year. (", GrammarSentences::wordsOfFormulas);
        s.holds(4, "OWN WORDS, which no NAME is: letter, hand, is, word, board, doubt, rain, blank, hail, more, less, ink, "
                + "column, row, place, near, year, number, long, line, at, or, and, not, all, min, max, forgive.",
                GrammarSentences::ownWords);
        s.holds(14, "It READS as the letter of a HAND by which doubt is least", GrammarSentences::leastDoubt);
        s.holds(28, "ACTS: YEARS; a stroke of a BOARD is painted, or scraped off; a BOARD is painted anew with a WORD, in a "
                + "HAND; YEARS by the seed", GrammarSentences::acts);
        s.holds(17, "A LINE for two WORDS in a HAND is a row of PIECES", GrammarSentences::rowOfPieces);
        s.holds(30, "A QUESTION is a text, of all WORDS: first TEST, last TEST", GrammarSentences::ofAllWords);
        s.holds(30, "TEST, SUM as in I, but PART: N; number; long; ink; year; line PART; at PART; ( SUM ) ; min ( SUM , SUM ) "
                + "; max ( SUM , SUM ) .", GrammarSentences::partsOfQuestions);
    }

    private static void due(String what, long got, long want) {
        Bench.due(what, got, want);
    }

    private static void due(String what, boolean got, boolean want) {
        Bench.due(what, got, want);
    }

    private static void told(String text, int statements) {
        due("shop() of " + text, Bench.shop(new TurnedBoards(), text), statements);
    }

    /** Every token of a good statement behind a good text: when it goes, or another stands there, that is the fault. */
    private static void eachTokenIsAsked(String ahead, String statement, int statements) {
        told(ahead + statement, statements);
        int at = 0;
        for (String token : statement.split(" ")) {
            String from = statement.substring(0, at);
            String behind = statement.substring(at + token.length());
            Bench.faultyBehind(ahead, from + "?" + behind, 1, at);
            Bench.faultyBehind(ahead, from, 1, at);
            Bench.faultyBehind(ahead, from + "] " + token + behind, 1, at);
            at += token.length() + 1;
        }
    }

    private static void letterStatement() {
        // ahead of "letter" the text could end, so that one is looked at apart
        eachTokenIsAsked("letter ", LETTER.substring(7), 1);
        Bench.faulty("? " + LETTER, 1, 0);
        Bench.faulty("letters a hand 0 is 1 2 3 4 5;", 1, 0);
        TurnedBoards x = Bench.shopOf(LETTER);
        due("which", x.letter(0, 0, 0), 1);
        due("rows", x.letter(0, 0, 1), Bench.rows(1, 2, 3, 4, 5));
        due("a letter by itself is no word", x.has(2), 0);
    }

    private static void boardStatement() {
        eachTokenIsAsked(FULL + "word ", "a ;", 2);
        eachTokenIsAsked(FULL + "word a;board ", BOARD.substring(6), 3);
        TurnedBoards x = Bench.shopOf(FULL + "word a;" + BOARD);
        due("its word", x.board(0, 0), 0);
        due("its hand", x.board(0, 1), 0);
    }

    private static void anyOrder() {
        for (String name : "forgive blank hail".split(" ")) {
            eachTokenIsAsked(name + " ", "7 ;", 1);
        }
        eachTokenIsAsked("doubt ", "7 ;", 1);
        eachTokenIsAsked("rain ", "all ;", 1);
        // settings, doubt and rain count wherever they stand, for letters told ahead of them, too
        String[] rest = {"doubt more*3;", "rain row=0;", "forgive 3;", "blank 4;", "hail 100;"};
        String shop = Bench.letter('a', 0, 7) + "word a;board a hand 0;";
        for (int first = 0; first < rest.length; first++) {
            StringBuilder ahead = new StringBuilder();
            StringBuilder behind = new StringBuilder();
            for (int i = 0; i < rest.length; i++) {
                (i < first ? behind : ahead).append(rest[i]);
            }
            TurnedBoards x = Bench.shopOf(ahead + shop + behind);
            due("doubt", x.doubt(0, 0, 15), 3);
            due("forgiven", x.reads(0, 15, 0), 1);
            due("not forgiven", x.reads(0, 31, 0), 0);
            due("blank", x.line(0, 0, 0, 0), 0);
            due("hail", x.chance(1), 1);
            due("rain", x.has(5), 0);
        }
    }

    private static void andAheadOfOr() {
        TurnedBoards x = Bench.shopOf(FULL + "word a;");
        String[] facts = {"1=0", "1=1", "not all", "all", "[1=0]", "not 1=0"};
        for (int a = 0; a < facts.length; a++) {
            for (int b = 0; b < facts.length; b++) {
                for (int c = 0; c < facts.length; c++) {
                    boolean p = a % 2 == 1;
                    boolean q = b % 2 == 1;
                    boolean r = c % 2 == 1;
                    holdsFor(x, facts[a] + " or " + facts[b] + " and " + facts[c], p || q && r);
                    holdsFor(x, facts[a] + " and " + facts[b] + " or " + facts[c], p && q || r);
                    holdsFor(x, "[" + facts[a] + " or " + facts[b] + "] and " + facts[c], (p || q) && r);
                    holdsFor(x, "not " + facts[a] + " and not[" + facts[b] + " or " + facts[c] + "]", !p && !q && !r);
                    holdsFor(x, "not[" + facts[a] + "]or " + facts[b] + " or not " + facts[c], !p || q || !r);
                }
            }
        }
    }

    private static void holdsFor(TurnedBoards x, String test, boolean want) {
        due(test, Bench.ask(x, "often " + test), want ? 1 : 0);
    }

    private static void productsAheadOfSums() {
        TurnedBoards x = Bench.shopOf(FULL + "word a;");
        String[] sums = {"2+3*4", "2*3+4", "9-8/3", "9/2-1", "2*(3+4)", "(9-8)*3", "7-6+5", "7-(6+5)", "8/4*2", "8/(4*2)",
            "min(2+3,4*2)", "max(2+3,4*2)", "min(1,2)+max(3,4)*min(5,6)", "max(min(7,3),min(8,2))", "min(9,2)*max(1,4)/3",
            "((5))", "5"};
        long[] due = {14, 10, 7, 3, 14, 3, 6, -4, 4, 1, 5, 8, 21, 3, 2, 5, 5};
        for (int i = 0; i < sums.length; i++) {
            due(sums[i], Bench.ask(x, "total " + sums[i]), due[i]);
            due("doubt " + sums[i], Bench.shopOf(FULL + "doubt " + sums[i] + ";").doubt(0, 0, 0), Math.max(0, due[i]));
            holdsFor(x, sums[i] + " = " + (due[i] < 0 ? "0-" + -due[i] : due[i]), true);
        }
        for (String sum : new String[] {"min(1)", "min(1,2,3)", "min 1,2", "min(,2)", "max(1 2)", "max[1,2]", "+1", "1++2", "()",
            "1 2", "*1", "2*/3"}) {
            due("fault of " + sum, Bench.ask(x, "total " + sum), TurnedBoards.NOTHING);
            due("fault of " + sum, x.fault(0), 1);
        }
    }

    /** Which words are PARTS in a doubt, in a rain, in a question. */
    private static void wordsOfFormulas() {
        String doubt = " more less ink ";
        String rain = " column row place near year ";
        String question = " number long ink year ";
        for (String word : "more less ink column row place near year number long line at all is hand a".split(" ")) {
            String spaced = " " + word + " ";
            if (doubt.contains(spaced)) {
                told("doubt " + word + ";", 1);
            } else {
                Bench.faulty("doubt " + word + ";", 1, 6);
            }
            if (rain.contains(spaced)) {
                told("rain " + word + "=0;", 1);
            } else {
                // after all a TEST is whole
                Bench.faulty("rain " + word + "=0;", 1, word.equals("all") ? 8 : 5);
            }
            TurnedBoards x = new TurnedBoards();
            if (question.contains(spaced)) {
                due("total " + word, Bench.ask(x, "total " + word), 0);
            } else {
                Bench.faultyAsk(x, "total " + word + ";", 1, word.equals("line") || word.equals("at") ? 6 + word.length() : 6);
            }
        }
    }

    private static void ownWords() {
        String own = " letter hand is word board doubt rain blank hail more less ink column row place near year number long "
                + "line at or and not all min max forgive ";
        for (String word : own.trim().split(" ")) {
            Bench.faulty("letter " + word + " hand 0 is 1 1 1 1 1;", 1, 7);
            Bench.faulty("word " + word + ";", 1, 5);
            Bench.faulty("board " + word + " hand 0;", 1, 6);
        }
        // every other letter or word of two letters is a NAME: its fault is that it is not told
        for (char a = 'a'; a <= 'z'; a++) {
            told("letter " + a + " hand 0 is 1 1 1 1 1;", 1);
            for (char b = 'a'; b <= 'z'; b++) {
                boolean no = own.contains(" " + a + b + " ");
                Bench.faulty("word " + a + b + ";", no ? 1 : 3, 5);
            }
        }
    }

    private static void leastDoubt() {
        TurnedBoards x = Bench.shopOf(Bench.letter('a', 0, 7) + Bench.letter('b', 0, 15) + Bench.letter('c', 0, 31)
                + Bench.letter('c', 1, 7) + "doubt more+less;forgive 99;");
        due("as told", x.reads(0, 7, 0), 1);
        due("as told", x.reads(0, 15, 0), 2);
        due("as told", x.reads(0, 31, 0), 3);
        due("one less", x.reads(0, 3, 0), 1);
        due("one more", x.reads(0, 63, 0), 3);
        due("a and c are alike in doubt", x.reads(0, 23, 0), 1);
        due("b alone is so near", x.reads(0, 13, 0), 2);
        due("of the other hand", x.reads(1, 31, 0), 3);
    }

    private static void acts() {
        TurnedBoards x = Bench.shopOf(Bench.letter('a', 0, 3) + "word a;word aa;board a hand 0;hail 100;");
        due("years", x.years(3), 0);
        due("one act", x.has(7), 1);
        due("painted", x.stroke(0, 0, 5, 1), true);
        due("two acts", x.has(7), 2);
        due("scraped off", x.stroke(0, 0, 5, 0), true);
        due("three acts", x.has(7), 3);
        due("painted anew", x.paint(0, 1, 0), true);
        due("four acts", x.has(7), 4);
        due("years by the seed", x.chance(7) >= 0, true);
        due("five acts", x.has(7), 5);
        // nothing else is one
        x.seed(3);
        x.image();
        x.lasts(0);
        Bench.ask(x, "total 1");
        Bench.shop(x, "x");
        due("five acts", x.has(7), 5);
        due("undone", x.undo(), true);
        due("the years by the seed", x.has(4), 3);
        due("undone", x.undo(), true);
        due("the painting", x.board(0, 0), 0);
        due("undone", x.undo(), true);
        due("the scraping", x.glyph(0, 0), 35);
        due("undone", x.undo(), true);
        due("the stroke", x.glyph(0, 0), 3);
        due("undone", x.undo(), true);
        due("the years", x.has(4), 0);
        due("no more", x.undo(), false);
    }

    /** Each PIECE of a LINE is for somebody, has a GLYPH, and all of them make up its strokes. */
    private static void rowOfPieces() {
        TurnedBoards x = Bench.shopOf(Bench.letter('a', 0, 7) + Bench.letter('b', 0, 7 << 12) + Bench.letter('c', 0, 0x1234)
                + "word abc;word bac;word cc;word abcabc;forgive 3;blank 4;");
        for (int one = 0; one < 4; one++) {
            for (int other = 0; other < 4; other++) {
                int strokes = 0;
                int ofOne = 0;
                int ofOther = 0;
                int pieces = x.line(one, other, 0, 2);
                for (int k = 0; k < pieces; k++) {
                    int whom = x.piece(one, other, 0, k, 0);
                    strokes += Integer.bitCount(x.piece(one, other, 0, k, 1));
                    ofOne += whom == 2 ? 0 : 1;
                    ofOther += whom == 1 ? 0 : 1;
                }
                due("strokes", x.line(one, other, 0, 1), strokes);
                due("letters of the one", ofOne, "abc bac cc abcabc".split(" ")[one].length());
                due("letters of the other", ofOther, "abc bac cc abcabc".split(" ")[other].length());
                due("a piece more", x.piece(one, other, 0, pieces, 0), TurnedBoards.NONE);
            }
        }
    }

    private static void ofAllWords() {
        StringBuilder text = new StringBuilder(FULL + "letter b hand 0 is 0 0 0 0 0;");
        String[] words = {"a", "b", "aa", "ab", "ba", "bb", "aaa", "bbb"};
        int strokes = 0;
        for (int many = 0; many <= words.length; many++) {
            TurnedBoards x = Bench.shopOf(text.toString());
            due("for how many", Bench.ask(x, "often all"), many);
            due("of all together", Bench.ask(x, "total ink"), strokes);
            due("the first", Bench.ask(x, "first all"), many == 0 ? TurnedBoards.NONE : 0);
            due("the last", Bench.ask(x, "last all"), many - 1);
            due("the greatest", Bench.ask(x, "most number"), Math.max(0, many - 1));
            due("the least", Bench.ask(x, "least 0-number"), Math.min(0, 1 - many));
            if (many < words.length) {
                text.append("word ").append(words[many]).append(';');
                strokes += 15 * words[many].replace("b", "").length();
            }
        }
    }

    private static void partsOfQuestions() {
        TurnedBoards x = Bench.shopOf(FULL + "word a;word aa;");
        String[] parts = {"7", "number", "long", "ink", "year", "line 1", "line number", "line(0)", "at 0", "at long", "at(1)",
            "(2)", "(number)", "min(number,1)", "max(long,2)", "line line 0", "line at 9", "at at 9", "at line 0*0"};
        for (String part : parts) {
            for (String kind : "total most least".split(" ")) {
                due(kind + " " + part, Bench.ask(x, kind + " " + part) != TurnedBoards.NOTHING, true);
                Bench.faultyAsk(x, kind + " " + part + "=1", 1, (kind + " " + part).length());
            }
            for (String kind : "first last often".split(" ")) {
                due(kind + " " + part, Bench.ask(x, kind + " " + part + "=" + part) != TurnedBoards.NOTHING, true);
                Bench.faultyAsk(x, kind + " " + part, 1, (kind + " " + part).length());
            }
        }
        // line and at take a PART, not a SUM
        due("at 0+1", Bench.ask(x, "total at 0+1"), 4);
        due("at(0+1)", Bench.ask(x, "total at(0+1)"), 0);
        due("at 0*5", Bench.ask(x, "total at 0*5"), 10);
        due("line 9+9", Bench.ask(x, "most line 9+9"), 8);
    }
}
