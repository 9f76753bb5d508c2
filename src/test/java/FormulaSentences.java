/** TEST and SUM: what their parts are worth, and how far a number goes. */
final class FormulaSentences {
    private static final String EMPTY = "letter a hand 0 is 0 0 0 0 0;";
    private static final String FULL = "letter a hand 0 is 7 7 7 7 7;";

    private FormulaSentences() {
    }

    static void test(Sentences s) {
        s.holds(30, "PART: N (1 to 4 digits)", FormulaSentences::digits);
        s.holds(13, "in doubt: more; less; ink", FormulaSentences::doubtParts);
        s.holds(13, "How many strokes there are that the letter has not; how many it has that are not there; how many the "
                + "letter has;", FormulaSentences::doubtParts);
        s.holds(24, "of a stroke its column, 0 .. 2", FormulaSentences::columns);
        s.holds(24, "its row, 0 .. 4", FormulaSentences::rows);
        s.holds(24, "its place on the BOARD", FormulaSentences::places);
        s.holds(24, "how many of the four next to it are there, in its letter", FormulaSentences::near);
        s.holds(24, "the YEAR.)", FormulaSentences::years);
        s.holds(30, "All from the left on", FormulaSentences::fromTheLeftOn);
        s.holds(30, "/ gives the greatest whole number not above, by 0 it gives 0", FormulaSentences::quotients);
        s.holds(30, "each sum, difference, product above 10 to the 6 is that, below -10 to the 6 likewise",
                FormulaSentences::cut);
        s.holds(24, "FACT: not FACT; [ TEST ] ; all; SUM SIGN SUM, SIGN < or > or = .", FormulaSentences::facts);
        s.holds(13, "Without: doubt is more+less*2, rain is never.", FormulaSentences::without);
    }

    private static void due(String what, long got, long want) {
        Bench.due(what, got, want);
    }

    /** As a question of one WORD, and as a doubt, which is cut at 0. */
    private static void value(String sum, long want) {
        due("total " + sum, Bench.ask(Bench.shopOf(EMPTY + "word a;"), "total " + sum), want);
        due("doubt " + sum, Bench.shopOf(EMPTY + "doubt " + sum + ";").doubt(0, 0, 0), Math.max(0, want));
    }

    /** What a year of rain leaves of one full letter. */
    private static void left(String test, int want) {
        TurnedBoards x = Bench.shopOf(FULL + "word a;board a hand 0;rain " + test + ";");
        due("lost by " + test, x.years(1), 15 - Integer.bitCount(want));
        due("left by " + test, x.glyph(0, 0), want);
    }

    private static void digits() {
        value("0", 0);
        value("9", 9);
        value("9999", 9999);
        value("0000", 0);
        value("0042", 42);
        TurnedBoards x = Bench.shopOf(EMPTY + "word a;");
        Bench.faultyAsk(x, "total 10000", 1, 10);
        Bench.faultyAsk(x, "total 00000", 1, 10);
        Bench.faultyAsk(x, "total ", 1, 6);
    }

    private static void doubtParts() {
        String two = EMPTY + "letter b hand 0 is 7 7 7 7 7;letter c hand 0 is 4 0 0 0 1;";
        long[][] more = {{0, 15, 1, 1}, {0, 0, 0, 0}, {0, 13, 0, 1}};
        long[][] less = {{0, 0, 0, 0}, {15, 0, 14, 14}, {2, 0, 1, 2}};
        int[] glyphs = {0, 32767, 1, 2};
        TurnedBoards m = Bench.shopOf(two + "doubt more;");
        TurnedBoards l = Bench.shopOf(two + "doubt less;");
        TurnedBoards i = Bench.shopOf(two + "doubt ink;");
        int[] ink = {0, 15, 2};
        for (int k = 0; k < 3; k++) {
            for (int g = 0; g < 4; g++) {
                due("more of letter " + k + ", glyph " + glyphs[g], m.doubt(0, k, glyphs[g]), more[k][g]);
                due("less of letter " + k + ", glyph " + glyphs[g], l.doubt(0, k, glyphs[g]), less[k][g]);
                due("ink of letter " + k + ", glyph " + glyphs[g], i.doubt(0, k, glyphs[g]), ink[k]);
            }
        }
    }

    private static void columns() {
        left("column<0", 32767);
        left("column=0", Bench.rows(3, 3, 3, 3, 3));
        left("column=1", Bench.rows(5, 5, 5, 5, 5));
        left("column=2", Bench.rows(6, 6, 6, 6, 6));
        left("column>2", 32767);
    }

    private static void rows() {
        left("row<0", 32767);
        left("row=0", Bench.rows(0, 7, 7, 7, 7));
        left("row=4", Bench.rows(7, 7, 7, 7, 0));
        left("row>4", 32767);
    }

    private static void places() {
        for (int place = 0; place <= 6; place++) {
            TurnedBoards x = Bench.shopOf(FULL + "word aaaaaa;board aaaaaa hand 0;rain place=" + place + ";");
            due("lost at place " + place, x.years(1), place < 6 ? 15 : 0);
            for (int p = 0; p < 6; p++) {
                due("left of place " + p, x.glyph(0, p), p == place ? 0 : 32767);
            }
        }
        TurnedBoards y = Bench.shopOf(FULL + "word aaaaaa;board aaaaaa hand 0;rain place<0 or place>5;");
        due("no other place", y.years(1), 0);
    }

    private static void near() {
        left("near<2", 32767);
        left("near=2", Bench.rows(2, 7, 7, 7, 2));
        left("near=3", Bench.rows(5, 2, 2, 2, 5));
        left("near=4", Bench.rows(7, 5, 5, 5, 7));
        left("near>4", 32767);
        // bits side by side that are in two rows are not next to each other, nor are those of two places
        String apart = Bench.letter('a', 0, 1 << 2 | 1 << 3) + "word aa;board aa hand 0;";
        due("near=0", Bench.shopOf(apart + "rain near=0;").years(1), 4);
        due("near>0", Bench.shopOf(apart + "rain near>0;").years(1), 0);
        String above = Bench.letter('a', 0, 1 << 11 | 1 << 14) + "word a;board a hand 0;";
        due("one above the other", Bench.shopOf(above + "rain near=1;").years(1), 2);
        String beside = Bench.letter('a', 0, 1 << 12 | 1 << 13) + "word a;board a hand 0;";
        due("one beside the other", Bench.shopOf(beside + "rain near=1;").years(1), 2);
        String ends = Bench.letter('a', 0, 1 | 1 << 14) + "word a;board a hand 0;";
        due("the two ends", Bench.shopOf(ends + "rain near=0;").years(1), 2);
    }

    private static void years() {
        left("year=0", 0);
        left("year=1", 32767);
        left("year<0", 32767);
        TurnedBoards x = Bench.shopOf(FULL + "word a;board a hand 0;rain year=998;");
        Bench.pass(x, 998);
        due("year 998 is not over", x.has(5), 15);
        due("year 998 is the last that passes", x.years(1), 15);
        TurnedBoards y = Bench.shopOf(FULL + "word a;board a hand 0;rain year>998;");
        Bench.pass(y, 999);
        due("no year passes behind it", y.has(5), 15);
    }

    private static void fromTheLeftOn() {
        value("10-3-2", 5);
        value("10-3+2", 9);
        value("100/7/2", 7);
        value("2*3/4", 1);
        value("7/2*2", 6);
        value("1+2*3", 7);
        value("(1+2)*3", 9);
        value("9-8/4*2-1", 4);
        value("1000*1000+5-5", 999995);
        value("5-5+1000*1000", 1000000);
    }

    private static void quotients() {
        value("7/2", 3);
        value("8/2", 4);
        value("1/2", 0);
        value("0/2", 0);
        value("(0-1)/2", -1);
        value("(0-2)/2", -1);
        value("(0-3)/2", -2);
        value("7/(0-2)", -4);
        value("8/(0-2)", -4);
        value("(0-7)/(0-2)", 3);
        value("(0-1)/9999", -1);
        value("(1000*1000)/(0-1)", -1000000);
        value("(0-1000*1000)/(0-1)", 1000000);
        value("5/0", 0);
        value("0/0", 0);
        value("(0-5)/0", 0);
        value("5/(1-1)+3", 3);
        value("5/0/0*9", 0);
    }

    private static void cut() {
        value("999*1001", 999999);
        value("1000*1000", 1000000);
        value("9901*101", 1000000);
        value("9999*9999", 1000000);
        value("9999*9999*9999*9999", 1000000);
        value("999*1001+1", 1000000);
        value("999*1001+2", 1000000);
        value("1000*1000+1-1", 999999);
        value("1000*1000-1", 999999);
        value("0-999*1001", -999999);
        value("0-999*1001-1", -1000000);
        value("0-999*1001-2", -1000000);
        value("0-1000*1000-1+1", -999999);
        value("(0-9901)*101", -1000000);
        value("(0-9999)*9999*9999", -1000000);
        value("(0-9999)*9999*(0-9999)", 1000000);
        value("1000*1000-(0-1000*1000)", 1000000);
        value("0-1000*1000+(0-1000*1000)", -1000000);
        value("(0-1000*1000)*(1000*1000)", -1000000);
        value("min(1000*1000+9,1000*1000)", 1000000);
        value("max(0-1000*1000-9,0-1000*1000)+1000*1000", 0);
    }

    private static void facts() {
        left("all", 0);
        left("not all", 32767);
        left("row<1", Bench.rows(0, 7, 7, 7, 7));
        left("row>3", Bench.rows(7, 7, 7, 7, 0));
        left("1<1 or 1>1", 32767);
        left("1=1 and 0<1 and 1>0", 0);
        left("not row=0 and row<2", Bench.rows(7, 0, 7, 7, 7));
        left("not [row=0 or row>1]", Bench.rows(7, 0, 7, 7, 7));
        left("row=0 or row=1 and column=0", Bench.rows(0, 3, 7, 7, 7));
        left("[row=0 or row=1] and column=0", Bench.rows(3, 3, 7, 7, 7));
        left("0-1<0", 0);
        left("0-1000*1000=0-9999*9999", 0);
    }

    private static void without() {
        TurnedBoards x = Bench.shopOf(Bench.letter('a', 0, 7) + "word a;board a hand 0;");
        due("nothing", x.doubt(0, 0, 7), 0);
        due("one more", x.doubt(0, 0, 15), 1);
        due("one less", x.doubt(0, 0, 3), 2);
        due("all more, all less", x.doubt(0, 0, 32760), 12 + 6);
        Bench.pass(x, 999);
        due("no stroke is lost", x.glyph(0, 0), 7);
    }
}
