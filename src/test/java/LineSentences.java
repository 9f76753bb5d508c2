/** Promises 17 to 20: LINES for two WORDS. */
final class LineSentences {
    private static final int NONE = TurnedBoards.NONE;
    private static final int[] FAR = {-1, Integer.MIN_VALUE, Integer.MAX_VALUE};
    /** One letter, the upper row: turned it is the lower one. */
    private static final String ROW = Bench.letter('a', 0, 7) + "word a;word aa;";
    private static final int UPPER = 7;
    private static final int LOWER = 7 << 12;

    private LineSentences() {
    }

    static void test(Sentences s) {
        s.holds(18, "read seen 0 as the one, seen 1 as the other: a PIECE for both is for the next letter of the one, from "
                + "its first one on, and the next of the other, from its last one on", LineSentences::bothWays);
        s.holds(18, "one of four GLYPHS: the letter of the one; that of the other, turned; the strokes of both; those that "
                + "both have", LineSentences::fourGlyphs);
        s.holds(17, "in doubt by its doubt as each (each no more than forgive; seen 0 and seen 1).",
                LineSentences::eachForgiven);
        s.holds(18, "A PIECE for one alone is its letter (of the other one turned), in doubt by blank. All letters are used "
                + "in their order.", LineSentences::alone);
        s.holds(17, "The LEAST line is in doubt least by all its PIECES", LineSentences::leastDoubt);
        s.holds(17, "of like ones it has the fewest strokes", LineSentences::fewestStrokes);
        s.holds(18, "of like ones the first: PIECE by PIECE those for both, by their GLYPHS in that order, ahead of one for "
                + "the one alone, that ahead of one for the other alone.", LineSentences::firstOfLikeOnes);
        s.holds(17, "The LEAST line for two WORDS in a HAND: 0 how far in doubt, 1 how many strokes, 2 how many PIECES. NONE "
                + "when there is none (a letter is not told of it), there are none such, or for others.",
                LineSentences::line);
        s.holds(18, "Its k-th PIECE: 0 for whom (0 both, 1 the one, 2 the other), 1 its GLYPH. NONE when there is none such, "
                + "or for others.", LineSentences::piece);
        s.holds(19, "The BEST WORD for one is that (it too) for which its LEAST line in HAND 0 is least in doubt; of like "
                + "ones the first.", LineSentences::bestWord);
        s.holds(19, "The BEST WORD for one; NONE when there is none such.", LineSentences::bestOfNone);
        s.holds(20, "The HAND for two WORDS is that whose LEAST line is less in doubt; of like ones HAND 0.",
                LineSentences::betterHand);
        s.holds(20, "The HAND for two WORDS; NONE when there are none such.", LineSentences::handOfNone);
    }

    private static void due(String what, long got, long want) {
        Bench.due(what, got, want);
    }

    /** A line: its doubt, its strokes, then for each PIECE for whom and its GLYPH. */
    private static void lineIs(TurnedBoards x, int one, int other, int... want) {
        String name = "line of " + one + ", " + other;
        due(name + ": doubt", x.line(one, other, 0, 0), want[0]);
        due(name + ": strokes", x.line(one, other, 0, 1), want[1]);
        due(name + ": pieces", x.line(one, other, 0, 2), want.length / 2 - 1);
        for (int k = 0; k < want.length / 2 - 1; k++) {
            due(name + ": whom " + k, x.piece(one, other, 0, k, 0), want[2 * k + 2]);
            due(name + ": glyph " + k, x.piece(one, other, 0, k, 1), want[2 * k + 3]);
        }
    }

    private static void bothWays() {
        // seen 1, b says a and a says b; c is alike from all sides
        int c = 1 << 7;
        String text = Bench.letter('a', 0, 1) + Bench.letter('b', 0, 1 << 14) + Bench.letter('c', 0, c)
                + "forgive 0;word acb;word bca;word aab;word a;word b;";
        TurnedBoards x = Bench.shopOf(text);
        lineIs(x, 0, 0, 0, 3, 0, 1, 0, c, 0, 1 << 14);
        lineIs(x, 1, 1, 0, 3, 0, 1 << 14, 0, c, 0, 1);
        lineIs(x, 3, 4, 0, 1, 0, 1);
        lineIs(x, 4, 3, 0, 1, 0, 1 << 14);
        // seen 1, the last letter of the other comes first
        Bench.shop(x, Bench.letter('a', 0, 1) + Bench.letter('b', 0, 1 << 14) + "forgive 0;word aab;word abb;");
        lineIs(x, 0, 1, 0, 3, 0, 1, 0, 1, 0, 1 << 14);
    }

    private static void fourGlyphs() {
        // the letter of the one: as good as that of the other, turned, and ahead of it; what joins them is worse
        lineIs(Bench.shopOf(ROW + "doubt (more-less)*(more-less);forgive 9;"), 0, 0, 0, 3, 0, UPPER);
        // that of the other, turned: in doubt as that of the one, but with fewer strokes
        lineIs(Bench.shopOf(Bench.letter('a', 0, 3) + Bench.letter('b', 0, 1 << 12) + "word a;word b;"
                + "doubt (more-less)*(more-less);"), 0, 1, 1, 1, 0, 4);
        // the strokes of both
        lineIs(Bench.shopOf(ROW + "forgive 3;"), 0, 0, 6, 6, 0, UPPER | LOWER);
        // those that both have
        lineIs(Bench.shopOf(ROW + "doubt more*2+less;forgive 3;"), 0, 0, 6, 0, 0, 0);
    }

    private static void eachForgiven() {
        lineIs(Bench.shopOf(ROW + "forgive 3;"), 0, 0, 6, 6, 0, UPPER | LOWER);
        lineIs(Bench.shopOf(ROW + "forgive 2;"), 0, 0, 18, 6, 1, UPPER, 2, LOWER);
        // as the one alone it would do: both must be forgiven
        String half = Bench.letter('a', 0, 7) + Bench.letter('b', 0, 15 << 11) + "word a;word b;blank 99;doubt more;";
        lineIs(Bench.shopOf(half + "forgive 0;"), 0, 1, 0, 3, 0, UPPER);
        lineIs(Bench.shopOf(half + "forgive 0;"), 1, 0, 0, 3, 0, LOWER);
        String less = half.replace("doubt more", "doubt less");
        lineIs(Bench.shopOf(less + "forgive 0;"), 0, 1, 0, 4, 0, 15);
        String more = half.replace("doubt more", "doubt more*5+less*5");
        lineIs(Bench.shopOf(more + "forgive 5;"), 0, 1, 5, 3, 0, UPPER);
        lineIs(Bench.shopOf(more + "forgive 4;"), 0, 1, 198, 7, 1, UPPER, 2, 15);
        // 99 is the most that can be forgiven
        String most = ROW + "forgive 99;blank 99;doubt ";
        lineIs(Bench.shopOf(most + "99;"), 0, 0, 198, 0, 0, 0);
        lineIs(Bench.shopOf(most + "100;"), 0, 0, 198, 6, 1, UPPER, 2, LOWER);
        // below 0 it is 0: a doubt can't pay for another
        lineIs(Bench.shopOf(ROW + "doubt more-5;forgive 0;"), 0, 0, 0, 0, 0, 0);
    }

    private static void alone() {
        lineIs(Bench.shopOf(ROW + "forgive 0;blank 0;"), 0, 0, 0, 6, 1, UPPER, 2, LOWER);
        lineIs(Bench.shopOf(ROW + "forgive 0;blank 99;"), 0, 0, 198, 6, 1, UPPER, 2, LOWER);
        lineIs(Bench.shopOf(ROW + "forgive 0;"), 0, 1, 27, 9, 1, UPPER, 2, LOWER, 2, LOWER);
        // the most pieces, strokes and doubt that a line can have
        TurnedBoards most = Bench.shopOf(Bench.letter('a', 0, 32767) + "word aaaaaa;doubt 1;forgive 0;blank 99;");
        due("doubt", most.line(0, 0, 0, 0), 1188);
        due("strokes", most.line(0, 0, 0, 1), 180);
        due("pieces", most.line(0, 0, 0, 2), 12);
        for (int k = 0; k < 12; k++) {
            due("whom", most.piece(0, 0, 0, k, 0), k < 6 ? 1 : 2);
        }
        due("a 13th", most.piece(0, 0, 0, 12, 0), NONE);
        // the least
        lineIs(Bench.shopOf(Bench.letter('a', 0, 0) + "word a;"), 0, 0, 0, 0, 0, 0);
        // in their order: of bc its c is met last to first
        String order = Bench.letter('a', 0, 1) + Bench.letter('b', 0, 2) + Bench.letter('c', 0, 4)
                + "word ab;word bc;forgive 0;";
        lineIs(Bench.shopOf(order), 0, 1, 36, 4, 1, 1, 1, 2, 2, 1 << 12, 2, 1 << 13);
    }

    private static void leastDoubt() {
        // both together are 6 in doubt, alone they are two blanks
        lineIs(Bench.shopOf(ROW + "forgive 3;blank 4;"), 0, 0, 6, 6, 0, UPPER | LOWER);
        lineIs(Bench.shopOf(ROW + "forgive 3;blank 2;"), 0, 0, 4, 6, 1, UPPER, 2, LOWER);
        lineIs(Bench.shopOf(ROW + "forgive 3;blank 4;"), 0, 1, 10, 9, 0, UPPER | LOWER, 2, LOWER);
        lineIs(Bench.shopOf(ROW + "forgive 3;blank 2;"), 1, 0, 6, 9, 1, UPPER, 1, UPPER, 2, LOWER);
    }

    private static void fewestStrokes() {
        // all are as much in doubt: what both have has the fewest
        lineIs(Bench.shopOf(ROW + "doubt 0;"), 0, 0, 0, 0, 0, 0);
        // for both it is as much in doubt as two blanks, and has fewer strokes
        lineIs(Bench.shopOf(Bench.letter('a', 0, 32767) + "word a;doubt 3;forgive 3;blank 3;"), 0, 0, 6, 15, 0, 32767);
        lineIs(Bench.shopOf(Bench.letter('a', 0, 3) + Bench.letter('b', 0, 7 << 12)
                + "word a;word b;forgive 1;blank 0;doubt less;"), 0, 1, 0, 3, 0, 7);
        // fewer strokes come ahead of the order: the one's second letter is met, though the first could be
        String order = Bench.letter('a', 0, 32767) + Bench.letter('b', 0, 1) + Bench.letter('c', 0, 0)
                + "word ba;word ab;word c;doubt 0;";
        lineIs(Bench.shopOf(order), 0, 2, 9, 1, 1, 1, 0, 0);
        lineIs(Bench.shopOf(order), 1, 2, 9, 1, 0, 0, 1, 1);
    }

    private static void firstOfLikeOnes() {
        // of both the first of like ones is that of the one
        String like = "doubt (more-less)*(more-less);forgive 0;";
        TurnedBoards x = Bench.shopOf(Bench.letter('a', 0, 1) + Bench.letter('b', 0, 1 << 13) + "word a;word b;" + like);
        lineIs(x, 0, 1, 0, 1, 0, 1);
        lineIs(x, 1, 0, 0, 1, 0, 1 << 13);
        // both ahead of alone: as much in doubt, as many strokes
        lineIs(Bench.shopOf(ROW + "forgive 3;blank 3;"), 0, 0, 6, 6, 0, UPPER | LOWER);
        // the one alone ahead of the other alone
        lineIs(Bench.shopOf(ROW + "forgive 0;blank 1;"), 0, 0, 2, 6, 1, UPPER, 2, LOWER);
        lineIs(Bench.shopOf(ROW + "forgive 0;blank 1;"), 1, 1, 4, 12, 1, UPPER, 1, UPPER, 2, LOWER, 2, LOWER);
        // piece by piece: the first is for both, what is left over stands behind it
        String empty = Bench.letter('a', 0, 0) + "word a;word aaa;";
        lineIs(Bench.shopOf(empty), 0, 1, 18, 0, 0, 0, 2, 0, 2, 0);
        lineIs(Bench.shopOf(empty), 1, 0, 18, 0, 0, 0, 1, 0, 1, 0);
        lineIs(Bench.shopOf(empty + "blank 0;"), 1, 1, 0, 0, 0, 0, 0, 0, 0, 0);
    }

    private static void line() {
        String text = ROW + Bench.letter('b', 0, 1) + "word ab;" + Bench.letter('a', 1, 7) + "forgive 3;";
        TurnedBoards x = Bench.shopOf(text);
        due("doubt", x.line(0, 0, 1, 0), 6);
        due("strokes", x.line(0, 0, 1, 1), 6);
        due("pieces", x.line(0, 0, 1, 2), 1);
        due("b is not told of hand 1", x.line(2, 0, 1, 0), NONE);
        due("b is not told of hand 1", x.line(0, 2, 1, 0), NONE);
        due("of hand 0 it is", x.line(2, 2, 0, 2) > 0 ? 1 : 0, 1);
        due("word 3", x.line(3, 0, 0, 0), NONE);
        due("word 3", x.line(0, 3, 0, 0), NONE);
        due("hand 2", x.line(0, 0, 2, 0), NONE);
        due("what 3", x.line(0, 0, 0, 3), NONE);
        for (int n : FAR) {
            due("word " + n, x.line(n, 0, 0, 0), NONE);
            due("word " + n, x.line(0, n, 0, 0), NONE);
            due("hand " + n, x.line(0, 0, n, 0), NONE);
            due("what " + n, x.line(0, 0, 0, n), NONE);
        }
        due("no words", Bench.shopOf("").line(0, 0, 0, 0), NONE);
        // in whatever order they are asked for, they are the same as when asked for first
        String all = Bench.letter('a', 0, 7) + Bench.letter('b', 0, 15) + Bench.letter('a', 1, 31) + Bench.letter('b', 1, 9)
                + "word a;word ab;word bba;forgive 4;";
        TurnedBoards y = Bench.shopOf(all);
        for (int i = 0; i < 54; i++) {
            // of these one alone changes in each step: one, the other, the hand, what is asked
            int one = i % 3;
            int other = i / 3 % 3;
            int hand = i / 9 % 2;
            int what = i / 18;
            due("line(" + one + ", " + other + ", " + hand + ", " + what + ")", y.line(one, other, hand, what),
                    Bench.shopOf(all).line(one, other, hand, what));
            due("line(" + other + ", " + one + ", " + hand + ", " + what + ")", y.line(other, one, hand, what),
                    Bench.shopOf(all).line(other, one, hand, what));
            due("line(" + other + ", " + one + ", other hand, " + what + ")", y.line(other, one, 1 - hand, what),
                    Bench.shopOf(all).line(other, one, 1 - hand, what));
        }
        for (int i = 0; i < 9; i++) {
            due("one after another", y.line(i % 3, i / 3, 0, 0), Bench.shopOf(all).line(i % 3, i / 3, 0, 0));
        }
        Bench.shop(y, all.replace("forgive 4", "forgive 0"));
        due("of the new shop", y.line(2, 2, 0, 0), 54);
    }

    private static void piece() {
        TurnedBoards x = Bench.shopOf(ROW + Bench.letter('b', 0, 1) + "word ab;forgive 3;");
        due("for both", x.piece(0, 1, 0, 0, 0), 0);
        due("for the other", x.piece(0, 1, 0, 1, 0), 2);
        due("for the one", x.piece(1, 0, 0, 1, 0), 1);
        due("the last", x.piece(0, 1, 0, 1, 1), LOWER);
        due("none behind it", x.piece(0, 1, 0, 2, 1), NONE);
        due("what 2", x.piece(0, 1, 0, 0, 2), NONE);
        due("hand 1 has no letters", x.piece(0, 1, 1, 0, 0), NONE);
        due("word 3", x.piece(3, 0, 0, 0, 0), NONE);
        due("word 3", x.piece(0, 3, 0, 0, 0), NONE);
        due("hand 2", x.piece(0, 0, 2, 0, 0), NONE);
        for (int n : FAR) {
            due("word " + n, x.piece(n, 0, 0, 0, 0), NONE);
            due("word " + n, x.piece(0, n, 0, 0, 0), NONE);
            due("hand " + n, x.piece(0, 0, n, 0, 0), NONE);
            due("piece " + n, x.piece(0, 0, 0, n, 0), NONE);
            due("what " + n, x.piece(0, 0, 0, 0, n), NONE);
        }
    }

    private static void bestWord() {
        // a turned is b, c turned is c; hand 1 is never asked
        String text = Bench.letter('a', 0, 1) + Bench.letter('b', 0, 1 << 14) + Bench.letter('c', 0, 1 << 7)
                + Bench.letter('a', 1, 1 << 7) + Bench.letter('b', 1, 1) + Bench.letter('c', 1, 2) + "forgive 0;";
        TurnedBoards x = Bench.shopOf(text + "word a;word b;word c;word ab;word bb;");
        due("of a", x.best(0), 1);
        due("of b", x.best(1), 0);
        due("of c it itself", x.best(2), 2);
        due("of ab it itself", x.best(3), 3);
        // of bb with a one letter is left, with all others there are more
        due("of bb", x.best(4), 0);
        TurnedBoards like = Bench.shopOf(text + "word a;word b;word c;blank 0;");
        due("all alike: the first", like.best(0), 0);
        due("all alike: the first", like.best(2), 0);
        due("the only word", Bench.shopOf(text + "word a;").best(0), 0);
        TurnedBoards eight = Bench.shopOf(text + "word a;word aa;word aaa;word aaaa;word ba;word bba;word ca;word b;");
        due("the eighth", eight.best(0), 7);
        due("for the eighth", eight.best(7), 0);
    }

    private static void bestOfNone() {
        TurnedBoards x = Bench.shopOf(ROW);
        due("word 1", x.best(1) >= 0 ? 1 : 0, 1);
        due("word 2", x.best(2), NONE);
        due("no words", Bench.shopOf("").best(0), NONE);
        for (int n : FAR) {
            due("word " + n, x.best(n), NONE);
        }
    }

    private static void betterHand() {
        // in doubt by a turned row: in one hand 6, in the other more or less
        String zero = Bench.letter('a', 0, 7) + "word a;forgive 9;blank 99;";
        due("hand 1 is less in doubt", Bench.shopOf(zero + Bench.letter('a', 1, 3)).hand(0, 0), 1);
        due("hand 1 is as much in doubt", Bench.shopOf(zero + Bench.letter('a', 1, 7)).hand(0, 0), 0);
        due("hand 1 is as much, with fewer strokes", Bench.shopOf(zero + "doubt 5;" + Bench.letter('a', 1, 0)).hand(0, 0), 0);
        due("hand 1 is more in doubt", Bench.shopOf(zero + Bench.letter('a', 1, 15)).hand(0, 0), 0);
        due("hand 1 has no line", Bench.shopOf(zero).hand(0, 0), 0);
    }

    private static void handOfNone() {
        TurnedBoards x = Bench.shopOf(ROW);
        due("words 1, 1", x.hand(1, 1), 0);
        due("word 2", x.hand(2, 0), NONE);
        due("word 2", x.hand(0, 2), NONE);
        due("no words", Bench.shopOf("").hand(0, 0), NONE);
        for (int n : FAR) {
            due("word " + n, x.hand(n, 0), NONE);
            due("word " + n, x.hand(0, n), NONE);
        }
    }
}
