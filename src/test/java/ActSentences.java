/** Promises 24 to 29: the ACTS, the DRAWS and the seed. */
final class ActSentences {
    private static final int NONE = TurnedBoards.NONE;
    private static final int MIN = Integer.MIN_VALUE;
    private static final int MAX = Integer.MAX_VALUE;
    private static final int[] FAR = {-1, MIN, MAX};
    /** One full letter on one board. */
    private static final String FULL = Bench.letter('a', 0, 32767) + "word a;board a hand 0;";

    private ActSentences() {
    }

    static void test(Sentences s) {
        s.holds(24, "A YEAR: of all BOARDS at once, each stroke that is there is lost, if the TEST of rain holds, by what is "
                + "there ahead of it.", ActSentences::rainAtOnce);
        s.holds(24, "The YEAR is one more (999 at most; it is 0 at first).", ActSentences::lastYear);
        s.holds(24, "n YEARS (1 .. 100): how many strokes were lost; NONE, refused (3), when it can't be (beyond YEAR 999).",
                ActSentences::years);
        s.holds(25, "YEARS by the seed: ahead of each a DRAW of 100: below hail, if there are BOARDS, a DRAW of these, a DRAW "
                + "of its places, a DRAW of 15: that stroke is lost (if it is there).", ActSentences::hail);
        s.holds(25, "A DRAW of m: x (the seed) becomes (1103515245 x + 12345) mod 2 to the 31; floor(x / 64) mod m.",
                ActSentences::draws);
        s.holds(25, "n YEARS by the seed (1 .. 100), one ACT: how many strokes were lost by hail; NONE, refused (3), when it "
                + "can't be.", ActSentences::chance);
        s.holds(26, "A stroke (bit 0 .. 14) of a place is painted (on 1), or scraped off (0): true; false, refused (2), when "
                + "it is so already, there is none such, or for others.", ActSentences::stroke);
        s.holds(27, "A BOARD is painted anew with a WORD in a HAND: true; false, refused (2), when it can't be, or there are "
                + "none such.", ActSentences::paint);
        s.holds(28, "The last 20 can be undone.", ActSentences::last20);
        s.holds(28, "The latest ACT is undone (the seed stays): true; false, refused (4), when none can be.",
                ActSentences::undo);
        s.holds(29, "The seed: true; false, refused (5), when it is below 0. (It is 1 at first.)", ActSentences::seed);
    }

    private static void due(String what, long got, long want) {
        Bench.due(what, got, want);
    }

    private static void due(String what, boolean got, boolean want) {
        Bench.due(what, got, want);
    }

    private static long next(long seed) {
        return (1103515245L * seed + 12345) % 2147483648L;
    }

    private static void rainAtOnce() {
        // by what is there ahead of it: a stroke that loses its neighbour has it still
        TurnedBoards x = Bench.shopOf(FULL + "rain near<3;");
        due("the corners", x.years(1), 4);
        due("left", x.glyph(0, 0), Bench.rows(2, 7, 7, 7, 2));
        due("those that were next to them", x.years(1), 6);
        due("left", x.glyph(0, 0), Bench.rows(0, 2, 7, 2, 0));
        String boards = Bench.letter('a', 0, 32767) + "word aaaaaa;" + "board aaaaaa hand 0;".repeat(4);
        TurnedBoards all = Bench.shopOf(boards + "rain all;");
        due("of all boards", all.years(1), 360);
        due("nothing is there", all.years(1), 0);
        TurnedBoards none = Bench.shopOf(boards + "rain not all;");
        due("none", none.years(100), 0);
    }

    private static void lastYear() {
        TurnedBoards x = Bench.shopOf(FULL);
        due("at first", x.has(4), 0);
        x.years(1);
        due("one more", x.has(4), 1);
        Bench.pass(x, 997);
        due("just inside", x.has(4), 998);
        due("to the last", x.years(1), 0);
        due("the last", x.has(4), 999);
        due("just outside", x.years(1), NONE);
        due("it stays", x.has(4), 999);
        due("by the seed neither", x.chance(1), NONE);
        x.undo();
        due("undone", x.has(4), 998);
        due("by the seed, too", x.chance(1), 0);
        due("the last", x.has(4), 999);
    }

    private static void years() {
        TurnedBoards x = Bench.shopOf(FULL + "rain row=year;");
        due("years(0)", x.years(0), NONE);
        due("years(101)", x.years(101), NONE);
        for (int n : FAR) {
            due("years(" + n + ")", x.years(n), NONE);
        }
        due("refused", x.status(3), 5);
        due("no year passed", x.has(4), 0);
        due("no act", x.has(7), 0);
        due("years(1)", x.years(1), 3);
        due("years(2)", x.years(2), 6);
        due("years(100)", x.years(100), 6);
        due("year", x.has(4), 103);
        due("three acts", x.has(7), 3);
        Bench.pass(x, 797);
        due("year", x.has(4), 900);
        due("100 would be beyond 999", x.years(100), NONE);
        due("refused", x.status(3), 6);
        due("99 are not", x.years(99), 0);
        due("year", x.has(4), 999);
        TurnedBoards y = Bench.shopOf(FULL);
        Bench.pass(y, 899);
        due("100 to year 999", y.years(100), 0);
        due("one more", y.years(1), NONE);
        due("refused", y.status(3), 1);
        due("no boards", new TurnedBoards().years(100), 0);
    }

    /** A seed whose first DRAW of 100 is that. */
    private static int seedFor(int draw) {
        int seed = 0;
        while (next(seed) / 64 % 100 != draw) {
            seed++;
        }
        return seed;
    }

    private static int hailBy(String hail, int seed) {
        TurnedBoards x = Bench.shopOf(FULL + hail);
        x.seed(seed);
        return x.chance(1);
    }

    private static void hail() {
        due("0 is not below 0", hailBy("hail 0;", seedFor(0)), 0);
        due("0 is below 1", hailBy("hail 1;", seedFor(0)), 1);
        due("1 is not below 1", hailBy("hail 1;", seedFor(1)), 0);
        due("49 is below 50", hailBy("hail 50;", seedFor(49)), 1);
        due("50 is not", hailBy("hail 50;", seedFor(50)), 0);
        due("98 is below 99", hailBy("hail 99;", seedFor(98)), 1);
        due("99 is not", hailBy("hail 99;", seedFor(99)), 0);
        due("99 is below 100", hailBy("hail 100;", seedFor(99)), 1);
        // without BOARDS, and not below hail, one DRAW a year
        TurnedBoards x = Bench.shopOf("hail 100;");
        due("no boards", x.chance(3), 0);
        Bench.shop(x, FULL + "hail 100;");
        TurnedBoards y = Bench.shopOf(FULL);
        due("no hail", y.chance(3), 0);
        Bench.shop(y, FULL + "hail 100;");
        long seed = next(next(next(1)));
        long bit = next(next(next(next(seed)))) / 64 % 15;
        x.chance(1);
        y.chance(1);
        due("the seventh draw", x.glyph(0, 0), 32767 - (1 << bit));
        due("the seventh draw", y.glyph(0, 0), 32767 - (1 << bit));
        // only what is there is lost
        TurnedBoards z = Bench.shopOf(FULL + "hail 100;");
        z.seed(7);
        due("it is there", z.chance(1), 1);
        z.seed(7);
        due("it is there no more", z.chance(1), 0);
        boardsAndPlaces();
    }

    /** All four boards, of one to six places, by the DRAWS as the document tells them. */
    private static void boardsAndPlaces() {
        TurnedBoards x = Bench.shopOf(Bench.letter('a', 0, 32767) + "word a;word aa;word aaaaa;word aaaaaa;board aaaaa hand 0;"
                + "board a hand 0;board aaaaaa hand 0;board aa hand 0;hail 70;rain row=2;");
        int[] places = {5, 1, 6, 2};
        int[][] glyphs = new int[4][6];
        for (int b = 0; b < 4; b++) {
            for (int p = 0; p < places[b]; p++) {
                glyphs[b][p] = 32767;
            }
        }
        long seed = MAX;
        x.seed(MAX);
        int lost = 0;
        for (int year = 0; year < 100; year++) {
            seed = next(seed);
            if (seed / 64 % 100 < 70) {
                seed = next(seed);
                int b = (int) (seed / 64 % 4);
                seed = next(seed);
                int p = (int) (seed / 64 % places[b]);
                seed = next(seed);
                int bit = (int) (seed / 64 % 15);
                lost += glyphs[b][p] >> bit & 1;
                glyphs[b][p] &= ~(1 << bit);
            }
            for (int b = 0; b < 4; b++) {
                for (int p = 0; p < places[b]; p++) {
                    glyphs[b][p] &= ~(7 << 6);
                }
            }
        }
        due("lost by hail, not by rain", x.chance(100), lost);
        for (int b = 0; b < 4; b++) {
            for (int p = 0; p < places[b]; p++) {
                due("board " + b + ", place " + p, x.glyph(b, p), glyphs[b][p]);
            }
        }
    }

    private static void draws() {
        // the fourth DRAW after each seed tells the stroke; the greatest seeds wrap around
        for (int seed : new int[] {0, 1, 2, 63, 64, 12345, 1103515245, MAX / 2, MAX - 1, MAX}) {
            TurnedBoards x = Bench.shopOf(FULL + "hail 100;");
            due("seed(" + seed + ")", x.seed(seed), true);
            due("one stroke", x.chance(1), 1);
            java.math.BigInteger drawn = java.math.BigInteger.valueOf(seed);
            for (int i = 0; i < 4; i++) {
                drawn = drawn.multiply(java.math.BigInteger.valueOf(1103515245)).add(java.math.BigInteger.valueOf(12345))
                        .mod(java.math.BigInteger.TWO.pow(31));
            }
            int bit = drawn.intValue() / 64 % 15;
            due("the stroke that is lost by seed " + seed, x.glyph(0, 0), 32767 - (1 << bit));
        }
    }

    private static void chance() {
        TurnedBoards x = Bench.shopOf(FULL + "hail 100;rain row=0;");
        due("chance(0)", x.chance(0), NONE);
        due("chance(101)", x.chance(101), NONE);
        for (int n : FAR) {
            due("chance(" + n + ")", x.chance(n), NONE);
        }
        due("refused", x.status(3), 5);
        due("no act", x.has(7), 0);
        due("no year passed", x.has(4), 0);
        due("chance(1)", x.chance(1), 1);
        due("chance(100)", x.chance(100) >= 0, true);
        due("year", x.has(4), 101);
        due("each is one act", x.has(7), 2);
        x.undo();
        due("100 years undone", x.has(4), 1);
        Bench.pass(x, 899);
        due("100 would be beyond 999", x.chance(100), NONE);
        due("99 are not", x.chance(99) >= 0, true);
        due("year", x.has(4), 999);
        due("one more", x.chance(1), NONE);
        due("refused", x.status(3), 7);
        // refused years draw nothing
        TurnedBoards y = Bench.shopOf(FULL + "hail 100;");
        TurnedBoards z = Bench.shopOf(FULL + "hail 100;");
        y.chance(0);
        y.chance(101);
        y.chance(1);
        z.chance(1);
        due("the same seed", y.glyph(0, 0), z.glyph(0, 0));
        due("no boards", new TurnedBoards().chance(100), 0);
    }

    private static void stroke() {
        TurnedBoards x = Bench.shopOf(Bench.letter('a', 0, 1) + "word a;word aaaaaa;board aaaaaa hand 0;board a hand 0;");
        due("there already", x.stroke(0, 0, 0, 1), false);
        due("scraped off", x.stroke(0, 0, 0, 0), true);
        due("off already", x.stroke(0, 0, 0, 0), false);
        due("painted", x.stroke(0, 0, 0, 1), true);
        due("bit 14, off already", x.stroke(0, 5, 14, 0), false);
        due("bit 14 painted", x.stroke(0, 5, 14, 1), true);
        due("bit 14", x.glyph(0, 5), 1 | 1 << 14);
        due("refused", x.status(2), 3);
        due("acts", x.has(7), 3);
        due("bit 15", x.stroke(0, 0, 15, 1), false);
        due("bit 15 off", x.stroke(0, 0, 15, 0), false);
        due("place 6", x.stroke(0, 6, 0, 1), false);
        due("place 1 of one", x.stroke(1, 1, 1, 1), false);
        due("board 2", x.stroke(2, 0, 1, 1), false);
        due("on 2", x.stroke(0, 0, 1, 2), false);
        due("refused", x.status(2), 9);
        for (int n : FAR) {
            due("board " + n, x.stroke(n, 0, 1, 1), false);
            due("place " + n, x.stroke(0, n, 1, 1), false);
            due("bit " + n, x.stroke(0, 0, n, 1), false);
            due("bit " + n, x.stroke(0, 0, n, 0), false);
            due("on " + n, x.stroke(0, 0, 1, n), false);
        }
        due("bit 32", x.stroke(0, 0, 32, 0), false);
        due("refused", x.status(2), 25);
        due("no act by what is refused", x.has(7), 3);
        due("nothing painted", x.glyph(0, 0), 1);
        due("no boards", new TurnedBoards().stroke(0, 0, 0, 1), false);
    }

    private static void paint() {
        String text = Bench.letter('a', 0, 3) + Bench.letter('b', 0, 4) + Bench.letter('a', 1, 9)
                + "word a;word ab;word aaaaaa;board aaaaaa hand 0;";
        TurnedBoards x = Bench.shopOf(text);
        due("the same", x.paint(0, 2, 0), true);
        due("an act all the same", x.has(7), 1);
        due("in hand 1", x.paint(0, 2, 1), true);
        due("its last place", x.glyph(0, 5), 9);
        due("its hand", x.board(0, 1), 1);
        due("shorter", x.paint(0, 0, 0), true);
        due("no strokes behind it", x.has(5), 2);
        due("ab in hand 0", x.paint(0, 1, 0), true);
        due("b is not told of hand 1", x.paint(0, 1, 1), false);
        due("word 3", x.paint(0, 3, 0), false);
        due("hand 2", x.paint(0, 0, 2), false);
        due("board 1", x.paint(1, 0, 0), false);
        due("refused", x.status(2), 4);
        for (int n : FAR) {
            due("board " + n, x.paint(n, 0, 0), false);
            due("word " + n, x.paint(0, n, 0), false);
            due("hand " + n, x.paint(0, 0, n), false);
        }
        due("refused", x.status(2), 13);
        due("acts", x.has(7), 4);
        due("its word stays", x.board(0, 0), 1);
        due("no boards", new TurnedBoards().paint(0, 0, 0), false);
    }

    private static void last20() {
        for (int acts : new int[] {19, 20, 21, 45}) {
            TurnedBoards x = Bench.shopOf(FULL);
            for (int i = 0; i < acts; i++) {
                x.years(1);
            }
            int undone = Math.min(20, acts);
            due("of " + acts, x.has(7), undone);
            for (int i = 1; i <= undone; i++) {
                due("undo " + i, x.undo(), true);
                due("the year", x.has(4), acts - i);
            }
            due("no more", x.undo(), false);
            due("refused", x.status(4), 1);
            due("the year", x.has(4), acts - undone);
            x.years(1);
            due("a new act can be", x.undo(), true);
            due("the year", x.has(4), acts - undone);
        }
    }

    private static void undo() {
        TurnedBoards x = Bench.shopOf(FULL + "word aa;hail 100;forgive 0;");
        due("none yet", x.undo(), false);
        due("refused", x.status(4), 1);
        x.stroke(0, 0, 3, 0);
        x.paint(0, 1, 0);
        x.years(100);
        x.chance(100);
        due("the years by the seed, as one", x.undo(), true);
        due("the year", x.has(4), 100);
        due("the strokes", x.has(5), 30);
        due("nothing kept", x.has(6), 0);
        due("the years", x.undo(), true);
        due("the year", x.has(4), 0);
        due("the painting", x.undo(), true);
        due("its places", x.board(0, 2), 1);
        due("as it was ahead of it", x.glyph(0, 0), 32767 - 8);
        due("the stroke", x.undo(), true);
        due("as at first", x.glyph(0, 0), 32767);
        due("none is left", x.undo(), false);
        due("refused", x.status(4), 2);
        // the seed stays where the undone years have left it
        long bit = 1;
        for (int i = 0; i < 404; i++) {
            bit = next(bit);
        }
        x.chance(1);
        due("the 404th draw", x.glyph(0, 0), 32767 - (1 << bit / 64 % 15));
        due("a refused act is none", x.years(0), NONE);
        due("the chance", x.undo(), true);
        due("no more", x.undo(), false);
    }

    private static void seed() {
        TurnedBoards first = Bench.shopOf(FULL + "hail 100;");
        TurnedBoards one = Bench.shopOf(FULL + "hail 100;");
        due("seed(1)", one.seed(1), true);
        first.chance(5);
        one.chance(5);
        due("1 at first", first.glyph(0, 0), one.glyph(0, 0));
        TurnedBoards x = Bench.shopOf(FULL + "hail 100;");
        due("seed(0)", x.seed(0), true);
        due("seed(-1)", x.seed(-1), false);
        due("the least number", x.seed(MIN), false);
        due("refused", x.status(5), 2);
        x.chance(1);
        long zero = next(next(next(next(0)))) / 64 % 15;
        due("what is refused leaves it", x.glyph(0, 0), 32767 - (1 << zero));
        due("the greatest", x.seed(MAX), true);
        due("refused", x.status(5), 2);
    }
}
