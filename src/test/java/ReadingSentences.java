/** Promises 12 to 16: GLYPHS as they are seen and read. */
final class ReadingSentences {
    private static final int NONE = TurnedBoards.NONE;
    private static final long NOTHING = TurnedBoards.NOTHING;
    private static final int[] FAR = {-1, Integer.MIN_VALUE, Integer.MAX_VALUE};

    private ReadingSentences() {
    }

    static void test(Sentences s) {
        s.holds(12, "It is seen: 0 as it is; 1 turned half round (what is at row r, column c, is seen at row 4 - r, column "
                + "2 - c); 2 mirrored in water (at row 4 - r, column c); 3 from behind (at row r, column 2 - c).",
                ReadingSentences::views);
        s.holds(12, "A GLYPH (0 .. 32767) as it is seen (0 .. 3); NONE when it can't be.", ReadingSentences::seen);
        s.holds(13, "How far a GLYPH leaves in doubt as the k-th letter of a HAND, cut at 0; NOTHING when there is none "
                + "such, or it can't be.", ReadingSentences::doubts);
        s.holds(14, "by which doubt is least, cut at 0 (below 0 is 0)", ReadingSentences::cutAt0);
        s.holds(14, "if that is no more than forgive", ReadingSentences::forgiven);
        s.holds(14, "of like ones the first told; else it says nothing.", ReadingSentences::likeOnes);
        s.holds(14, "What a GLYPH, seen so (0 .. 3), READS as in a HAND: 1 .. 26; 0: it says nothing; NONE when it can't "
                + "be.", ReadingSentences::reads);
        s.holds(15, "it is read in that HAND: seen 0, 2 place by place from the first one on, seen 1, 3 from the last one "
                + "on.", ReadingSentences::orderOfPlaces);
        s.holds(15, "AHEAD are YEARS as they come from now on without DRAWS (60 at most, not beyond YEAR 999).",
                ReadingSentences::ahead);
        s.holds(15, "The letter that a BOARD says at the k-th place as it is read, seen so (0 .. 3), behind n YEARS AHEAD "
                + "(0 .. 60): 1 .. 26; 0: nothing; NONE when there is none such, or n can't be.", ReadingSentences::says);
        s.holds(16, "The WORD that a WORD in a HAND says, seen so (0 .. 3), letter by letter; NONE when it is none, or can't "
                + "be painted, or there are none such.", ReadingSentences::becomes);
    }

    private static void due(String what, long got, long want) {
        Bench.due(what, got, want);
    }

    private static void views() {
        TurnedBoards x = new TurnedBoards();
        for (int r = 0; r < 5; r++) {
            for (int c = 0; c < 3; c++) {
                int glyph = 1 << 3 * r + c;
                due("as it is", x.seen(glyph, 0), glyph);
                due("turned", x.seen(glyph, 1), 1 << 3 * (4 - r) + 2 - c);
                due("in water", x.seen(glyph, 2), 1 << 3 * (4 - r) + c);
                due("from behind", x.seen(glyph, 3), 1 << 3 * r + 2 - c);
            }
        }
    }

    private static void seen() {
        TurnedBoards x = new TurnedBoards();
        for (int how = 0; how <= 3; how++) {
            due("the least", x.seen(0, how), 0);
            due("the greatest", x.seen(32767, how), 32767);
            due("one less", x.seen(32766, how), 32767 - x.seen(1, how));
            due("beyond", x.seen(32768, how), NONE);
            for (int n : FAR) {
                due("glyph " + n, x.seen(n, how), NONE);
            }
        }
        due("seen 4", x.seen(1, 4), NONE);
        for (int n : FAR) {
            due("seen " + n, x.seen(1, n), NONE);
        }
    }

    private static void doubts() {
        String text = Bench.letter('a', 0, 0) + Bench.letter('b', 0, 32767) + Bench.letter('c', 1, 1);
        TurnedBoards x = Bench.shopOf(text);
        due("none", x.doubt(0, 0, 0), 0);
        due("all more", x.doubt(0, 0, 32767), 15);
        due("all less", x.doubt(0, 1, 0), 30);
        due("none of hand 1", x.doubt(1, 0, 1), 0);
        due("glyph 32768", x.doubt(0, 0, 32768), NOTHING);
        due("k 2", x.doubt(0, 2, 0), NOTHING);
        due("k 1 of hand 1", x.doubt(1, 1, 0), NOTHING);
        due("hand 2", x.doubt(2, 0, 0), NOTHING);
        for (int n : FAR) {
            due("hand " + n, x.doubt(n, 0, 0), NOTHING);
            due("k " + n, x.doubt(0, n, 0), NOTHING);
            due("glyph " + n, x.doubt(0, 0, n), NOTHING);
        }
        TurnedBoards cut = Bench.shopOf(text + "doubt more-3;");
        due("below 0", cut.doubt(0, 0, 3), 0);
        due("0", cut.doubt(0, 0, 7), 0);
        due("above 0", cut.doubt(0, 0, 15), 1);
        due("far below 0", Bench.shopOf(text + "doubt 0-9999*9999;").doubt(0, 0, 0), 0);
        due("the greatest", Bench.shopOf(text + "doubt 9999*9999;").doubt(0, 0, 0), 1000000);
    }

    private static void cutAt0() {
        // as a, told first, 6 strokes are wrong, as b none: only the cut makes them alike
        String text = Bench.letter('a', 0, 56) + Bench.letter('b', 0, 7) + "forgive 0;";
        due("below 0 is 0", Bench.shopOf(text + "doubt more+less-7;").reads(0, 7, 0), 1);
        due("0 is 0", Bench.shopOf(text + "doubt more+less-6;").reads(0, 7, 0), 1);
        due("above 0 is more", Bench.shopOf(text + "doubt more+less-5;").reads(0, 7, 0), 2);
    }

    private static void forgiven() {
        for (int forgive : new int[] {0, 1, 2, 15}) {
            TurnedBoards x = Bench.shopOf(Bench.letter('a', 0, 0) + "forgive " + forgive + ";");
            for (int strokes = 0; strokes <= 15; strokes++) {
                due("forgive " + forgive + ", in doubt " + strokes, x.reads(0, (1 << strokes) - 1, 0),
                        strokes <= forgive ? 1 : 0);
            }
        }
        TurnedBoards most = Bench.shopOf(Bench.letter('a', 0, 0) + "forgive 99;doubt 98+more;");
        due("98", most.reads(0, 0, 0), 1);
        due("99", most.reads(0, 1, 0), 1);
        due("100", most.reads(0, 3, 0), 0);
    }

    private static void likeOnes() {
        String alike = Bench.letter('b', 0, 1) + Bench.letter('a', 0, 1) + Bench.letter('a', 1, 1)
                + Bench.letter('b', 1, 1);
        TurnedBoards x = Bench.shopOf(alike);
        due("b first", x.reads(0, 1, 0), 2);
        due("a first in hand 1", x.reads(1, 1, 0), 1);
        due("in doubt 2, like ones", x.reads(0, 0, 0), 2);
        due("in doubt 3", x.reads(0, 15, 0), 0);
        TurnedBoards last = Bench.shopOf(Bench.letter('b', 0, 1) + Bench.letter('a', 0, 3) + Bench.letter('c', 0, 7));
        due("the least, not the first", last.reads(0, 7, 0), 3);
        due("the least, not the last", last.reads(0, 3, 0), 1);
    }

    private static void reads() {
        TurnedBoards x = Bench.shopOf(Bench.letter('a', 0, 1) + Bench.letter('z', 0, 1 << 14) + Bench.letter('m', 1, 32767)
                + "forgive 0;");
        due("the first letter", x.reads(0, 1, 0), 1);
        due("the last letter", x.reads(0, 1 << 14, 0), 26);
        due("turned", x.reads(0, 1, 1), 26);
        due("in water", x.reads(0, 4, 2), 26);
        due("from behind", x.reads(0, 4, 3), 1);
        due("nothing", x.reads(0, 2, 0), 0);
        due("the greatest glyph", x.reads(1, 32767, 3), 13);
        due("the least glyph", x.reads(1, 0, 0), 0);
        due("beyond", x.reads(1, 32768, 0), NONE);
        due("hand 2", x.reads(2, 0, 0), NONE);
        due("seen 4", x.reads(0, 0, 4), NONE);
        for (int n : FAR) {
            due("hand " + n, x.reads(n, 0, 0), NONE);
            due("glyph " + n, x.reads(0, n, 0), NONE);
            due("seen " + n, x.reads(0, 0, n), NONE);
        }
        due("a hand without letters", Bench.shopOf("").reads(1, 32767, 3), 0);
    }

    private static void orderOfPlaces() {
        // each letter is alike from all sides
        String text = Bench.letter('a', 0, Bench.rows(2, 0, 0, 0, 2)) + Bench.letter('b', 0, Bench.rows(0, 5, 0, 5, 0))
                + Bench.letter('c', 0, Bench.rows(0, 0, 7, 0, 0)) + "word abc;word a;board abc hand 0;board a hand 0;";
        TurnedBoards x = Bench.shopOf(text);
        for (int k = 0; k < 3; k++) {
            due("seen 0", x.says(0, 0, 0, k), k + 1);
            due("seen 1", x.says(0, 1, 0, k), 3 - k);
            due("seen 2", x.says(0, 2, 0, k), k + 1);
            due("seen 3", x.says(0, 3, 0, k), 3 - k);
        }
        for (int how = 0; how <= 3; how++) {
            due("one place", x.says(1, how, 0, 0), 1);
        }
    }

    private static void ahead() {
        String full = Bench.letter('a', 0, 32767) + "word a;board a hand 0;forgive 0;";
        TurnedBoards x = Bench.shopOf(full + "hail 100;rain year=59;");
        due("59 years, no draws", x.says(0, 0, 59, 0), 1);
        due("60 years", x.says(0, 0, 60, 0), 0);
        due("61 years", x.says(0, 0, 61, 0), NONE);
        due("nothing has passed", x.has(4), 0);
        due("lasts", x.lasts(0), 59);
        TurnedBoards y = Bench.shopOf(full);
        due("60 at most", y.lasts(0), 60);
        Bench.pass(y, 939);
        due("60 are left", y.says(0, 0, 60, 0), 1);
        due("60 are left", y.lasts(0), 60);
        y.years(1);
        due("60 are not", y.says(0, 0, 60, 0), NONE);
        due("59 are left", y.says(0, 0, 59, 0), 1);
        due("59 are left", y.lasts(0), 59);
        Bench.pass(y, 59);
        due("none is left", y.says(0, 0, 1, 0), NONE);
        due("now", y.says(0, 0, 0, 0), 1);
        due("none is left", y.lasts(0), 0);
    }

    private static void says() {
        String text = Bench.letter('a', 0, 32767) + Bench.letter('z', 0, 32760)
                + "word az;board az hand 0;forgive 0;rain row=0 or year=1;";
        TurnedBoards x = Bench.shopOf(text);
        due("now", x.says(0, 0, 0, 0), 1);
        due("now", x.says(0, 0, 0, 1), 26);
        due("behind a year", x.says(0, 0, 1, 0), 26);
        due("behind two", x.says(0, 0, 2, 0), 0);
        due("-1 years", x.says(0, 0, -1, 0), NONE);
        due("60 years", x.says(0, 0, 60, 0), 0);
        due("61 years", x.says(0, 0, 61, 0), NONE);
        due("place 2", x.says(0, 0, 0, 2), NONE);
        due("seen 3", x.says(0, 3, 0, 0), 26);
        due("seen 4", x.says(0, 4, 0, 0), NONE);
        due("board 1", x.says(1, 0, 0, 0), NONE);
        for (int n : FAR) {
            due("board " + n, x.says(n, 0, 0, 0), NONE);
            due("seen " + n, x.says(0, n, 0, 0), NONE);
            due("years " + n, x.says(0, 0, n, 0), NONE);
            due("place " + n, x.says(0, 0, 0, n), NONE);
        }
    }

    private static void becomes() {
        String text = Bench.letter('a', 0, 1) + Bench.letter('b', 0, 1 << 14) + Bench.letter('c', 0, Bench.rows(0, 0, 2, 0, 0))
                + Bench.letter('c', 1, 1) + "forgive 0;word ab;word ac;word cb;word c;word a;word b;word ba;word ccc;";
        TurnedBoards x = Bench.shopOf(text);
        int[][] want = {{0, 0, NONE, NONE}, {1, 2, NONE, NONE}, {2, 1, NONE, NONE}, {3, 3, 3, 3}, {4, 5, NONE, NONE},
            {5, 4, NONE, NONE}, {6, 6, NONE, NONE}, {7, 7, 7, 7}};
        for (int w = 0; w < 8; w++) {
            for (int how = 0; how <= 3; how++) {
                due("becomes(" + w + ", 0, " + how + ")", x.becomes(w, 0, how), want[w][how]);
            }
        }
        due("in hand 1", x.becomes(3, 1, 0), 3);
        due("in hand 1, turned", x.becomes(3, 1, 1), NONE);
        due("can't be painted", x.becomes(4, 1, 0), NONE);
        due("word 8", x.becomes(8, 0, 0), NONE);
        due("hand 2", x.becomes(0, 2, 0), NONE);
        due("seen 4", x.becomes(0, 0, 4), NONE);
        for (int n : FAR) {
            due("word " + n, x.becomes(n, 0, 0), NONE);
            due("hand " + n, x.becomes(0, n, 0), NONE);
            due("seen " + n, x.becomes(0, 0, n), NONE);
        }
        due("no words", Bench.shopOf("").becomes(0, 0, 0), NONE);
    }
}
