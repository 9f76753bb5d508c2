/** For each promise of the document: ordinary inputs, the edges that it names, wrong inputs. */
public final class PromiseTest {
    private static final int NONE = TurnedBoards.NONE;
    private static final long NOTHING = TurnedBoards.NOTHING;
    private static final int U = 31597;
    private static final int N = 23407;
    private static final int O = 31599;
    private static final int P = 5103;
    private static final int D = 31716;
    private static final String LETTERS = "letter u hand 0 is 5 5 5 5 7; letter n hand 0 is 7 5 5 5 5;"
            + "letter o hand 0 is 7 5 5 5 7; letter p hand 0 is 7 5 7 4 4; letter d hand 0 is 1 1 7 5 7;"
            + "letter o hand 1 is 2 5 5 5 2; letter n hand 1 is 6 5 5 5 5;";
    private static final String WORDS = "word up; word dn; word on; word uo; word pod;";
    private static final String SHOP = LETTERS + WORDS + "board pod hand 0; board on hand 1;";
    /** One full letter on one board, where the first lost stroke makes it say nothing. */
    private static final String FULL = "letter a hand 0 is 7 7 7 7 7; word a; board a hand 0; forgive 0;";

    public static void main(String[] args) {
        newObject();
        feedAndEnd();
        shops();
        textFaults();
        numberFaults();
        nameFaults();
        depthFaults();
        countFaults();
        has();
        told();
        boards();
        kept();
        seen();
        doubt();
        formulas();
        reads();
        says();
        becomes();
        lines();
        lineOrder();
        bestAndHand();
        been();
        lasts();
        mend();
        years();
        rain();
        chance();
        strokeAndPaint();
        undo();
        seed();
        questions();
        questionFaults();
        images();
        on();
        status();
        roomIsKept();
        Bench.finish();
    }

    private static void due(String what, long got, long want) {
        Bench.due(what, got, want);
    }

    private static void due(String what, boolean got, boolean want) {
        Bench.due(what, got, want);
    }

    private static String times(int n, String text) {
        return text.repeat(n);
    }

    // Promise 1
    private static void newObject() {
        TurnedBoards x = new TurnedBoards();
        for (int what = 0; what <= 7; what++) {
            due("new has(" + what + ")", x.has(what), 0);
        }
        due("new letter", x.letter(0, 0, 0), NONE);
        due("new word", x.word(0, 0), NONE);
        due("new board", x.board(0, 0), NONE);
        due("new fault(0)", x.fault(0), 0);
        due("new fault(1)", x.fault(1), NONE);
        due("new fault(2)", x.fault(2), NONE);
        due("new octet", x.octet(0), NONE);
        due("new end(0)", x.end(0), true);
        for (int what = 0; what <= 5; what++) {
            due("new status(" + what + ")", x.status(what), 0);
        }
    }

    // Promises 2, 3
    private static void feedAndEnd() {
        TurnedBoards x = new TurnedBoards();
        for (int i = 1; i <= 80; i++) {
            due("feed " + i, x.feed(-1, 0, 1, 2, 3), 20L * i);
        }
        due("feed beyond 1600", x.feed(0, 0, 0, 0, 0), NONE);
        due("status(0)", x.status(0), 1);
        due("end(1601)", x.end(1601), false);
        due("end(-1)", x.end(-1), false);
        due("status(0)", x.status(0), 3);
        due("end(1600)", x.end(1600), true);
        due("end(1581)", x.end(1581), true);
        due("feed of 20 behind 1581", x.feed(0, 0, 0, 0, 0), NONE);
        due("end(1580)", x.end(1580), true);
        due("feed of 20 behind 1580", x.feed(0, 0, 0, 0, 0), 1600);
        due("end(3)", x.end(3), true);
        due("end(4)", x.end(4), false);
        // "hail 7;" by its bytes, the highest of each number first
        x.end(0);
        x.feed(0x6861696c, 0x20373b20, 0x20202020, 0x20202020, 0x20202020);
        due("shop() by bytes", x.shop(), 1);
        due("the tape is gone", x.end(1), false);
    }

    // Promises 4, 5
    private static void shops() {
        TurnedBoards x = new TurnedBoards();
        due("shop() of nothing", x.shop(), 0);
        due("shop() of blanks", Bench.shop(x, " \n \n"), 0);
        due("shop()", Bench.shop(x, SHOP), 14);
        due("a fault without", x.fault(0), 0);
        due("its place", x.fault(1), NONE);
        x.years(3);
        x.stroke(0, 0, 1, 0);
        int strokes = x.has(5);
        due("shop() with a fault", Bench.shop(x, "letter a hand 0 is 1 1 1 1 1; oops"), NONE);
        due("fault(0)", x.fault(0), 1);
        due("fault(1)", x.fault(1), 30);
        due("fault(2)", x.fault(2), NONE);
        due("fault(-1)", x.fault(-1), NONE);
        due("refused", x.status(1), 1);
        due("all stays: letters", x.has(0), 5);
        due("all stays: year", x.has(4), 3);
        due("all stays: strokes", x.has(5), strokes);
        due("all stays: acts", x.has(7), 2);
        due("the tape goes with a fault too", x.end(1), false);
        due("shop() again", Bench.shop(x, SHOP), 14);
        due("as at first: year", x.has(4), 0);
        due("as at first: acts", x.has(7), 0);
        due("as at first: strokes", x.has(5), 50);
        due("refused stay counted", x.status(1), 1);
        due("60 statements", Bench.shop(x, times(60, "hail 1;")), 60);
        due("blanks where one likes", Bench.shop(x, "\n letter\na\nhand 0\nis 1 2 3 4 5 \n;word   a;"), 2);
        due("rows told", x.letter(0, 0, 1), Bench.rows(1, 2, 3, 4, 5));
        Bench.shop(x, "");
        due("an empty shop has no letters", x.has(0), 0);
        // the seed stays with a new shop
        TurnedBoards y = Bench.shopOf(FULL + "hail 100;");
        TurnedBoards z = Bench.shopOf(FULL + "hail 100;");
        y.chance(1);
        z.chance(1);
        Bench.shop(y, FULL + "hail 100;");
        z.undo();
        y.chance(5);
        z.chance(5);
        due("the seed stays", y.glyph(0, 0), z.glyph(0, 0));
    }

    private static void textFaults() {
        Bench.faulty("x", 1, 0);
        Bench.faulty("  ;", 1, 2);
        Bench.faulty("lett", 1, 0);
        Bench.faulty("letters a", 1, 0);
        Bench.faulty("Letter a", 1, 0);
        Bench.faulty("\thail 1;", 1, 0);
        Bench.faulty("hail", 1, 4);
        Bench.faulty("hail  ", 1, 6);
        Bench.faulty("hail1;", 1, 4);
        Bench.faulty("hail 1", 1, 6);
        Bench.faulty("hail 1x;", 1, 6);
        Bench.faulty("hail x;", 1, 5);
        Bench.faulty("hail 12345;", 1, 9);
        Bench.faulty("hail 00001;", 1, 9);
        Bench.faulty("hail 1 12345;", 1, 7);
        Bench.faulty("hail 1;;", 1, 7);
        Bench.faulty("letter 1", 1, 7);
        Bench.faulty("letter max", 1, 7);
        Bench.faulty("letter forgive", 1, 7);
        Bench.faulty("letter abc", 1, 8);
        Bench.faulty("letter a0", 1, 8);
        Bench.faulty("letter a hands 0", 1, 9);
        Bench.faulty("letter a hand0", 1, 13);
        Bench.faulty("letter a hand 0is", 1, 15);
        Bench.faulty("letter a hand 0 is 1 1 1 1 1 1;", 1, 29);
        Bench.faulty("doubt ;", 1, 6);
        Bench.faulty("doubt row;", 1, 6);
        Bench.faulty("doubt year;", 1, 6);
        Bench.faulty("doubt more less;", 1, 11);
        Bench.faulty("doubt more<1;", 1, 10);
        Bench.faulty("doubt -1;", 1, 6);
        Bench.faulty("doubt 12345;", 1, 10);
        Bench.faulty("doubt min 1;", 1, 10);
        Bench.faulty("doubt min(1;", 1, 11);
        Bench.faulty("doubt min(1,2;", 1, 13);
        Bench.faulty("doubt (1;", 1, 8);
        Bench.faulty("doubt line 1;", 1, 6);
        Bench.faulty("doubt at 1;", 1, 6);
        Bench.faulty("doubt 1+;", 1, 8);
        Bench.faulty("doubt 1*", 1, 8);
        Bench.faulty("rain row;", 1, 8);
        Bench.faulty("rain more=1;", 1, 5);
        Bench.faulty("rain row=1=1;", 1, 10);
        Bench.faulty("rain (row=1);", 1, 9);
        Bench.faulty("rain [row=1;", 1, 11);
        Bench.faulty("rain [row=1 or];", 1, 14);
        Bench.faulty("rain row=1and row=2;", 1, 10);
        Bench.faulty("rain all all;", 1, 9);
        Bench.faulty("rain not;", 1, 8);
        Bench.faulty("rain notall;", 1, 5);
        Bench.faulty("rain", 1, 4);
        for (String own : ("letter hand is word board doubt rain blank hail more less ink column row place near year "
                + "number long line at or and not all min max forgive").split(" ")) {
            Bench.faulty(LETTERS + "word " + own, 1, LETTERS.length() + 5);
        }
        Bench.faulty(LETTERS + "word upupupu;", 1, LETTERS.length() + 11);
        Bench.faulty(LETTERS + "word up1;", 1, LETTERS.length() + 7);
        Bench.faulty(SHOP + "board upupupu", 1, SHOP.length() + 12);
        Bench.faulty(SHOP + "board at", 1, SHOP.length() + 6);
        Bench.faulty(SHOP + "board up;", 1, SHOP.length() + 8);
        // no own words, so names: those of questions
        TurnedBoards x = Bench.shopOf("letter l hand 0 is 1 1 1 1 1;letter a hand 0 is 1 1 1 1 1;"
                + "letter s hand 0 is 1 1 1 1 1;letter t hand 0 is 1 1 1 1 1;word last;");
        due("word last", x.has(2), 1);
    }

    private static void numberFaults() {
        Bench.faulty("hail 101;", 2, 5);
        Bench.faulty("forgive 100;", 2, 8);
        Bench.faulty("blank 100;", 2, 6);
        Bench.faulty("letter a hand 2 is", 2, 14);
        Bench.faulty("letter a hand 2x", 2, 14);
        Bench.faulty("letter a hand 1 is 7 7 8 x", 2, 23);
        Bench.faulty(LETTERS + "letter u hand 0", 2, LETTERS.length() + 14);
        Bench.faulty(LETTERS + "letter o hand 1", 2, LETTERS.length() + 14);
        Bench.faulty(SHOP + "board up hand 2", 2, SHOP.length() + 14);
        Bench.faulty(SHOP + "board up hand 1", 2, SHOP.length() + 14);
        due("the greatest that can be", new TurnedBoards().shop(), 0);
        Bench.shopOf("hail 100; hail 0; forgive 99; blank 99; forgive 0000; blank 0;");
        Bench.shopOf(LETTERS + "letter u hand 1 is 0 0 0 0 0;");
    }

    private static void nameFaults() {
        Bench.faulty(LETTERS + "word upx", 3, LETTERS.length() + 5);
        Bench.faulty(LETTERS + "word upx1", 3, LETTERS.length() + 5);
        Bench.faulty(LETTERS + "word up;word  up", 3, LETTERS.length() + 14);
        Bench.faulty("letter a hand 1 is 1 1 1 1 1;word a", 3, 34);
        Bench.faulty(SHOP + "board u hand 0", 3, SHOP.length() + 6);
        Bench.faulty(SHOP + "board podd", 3, SHOP.length() + 6);
        Bench.faulty("word a;letter a hand 0 is 1 1 1 1 1;", 3, 5);
        TurnedBoards x = Bench.shopOf(SHOP + "board pod hand 0;");
        due("a word on two boards", x.has(3), 3);
    }

    private static void depthFaults() {
        Bench.shopOf("doubt ((((((more))))));");
        Bench.faulty("doubt (((((((more)))))));", 4, 12);
        Bench.shopOf("rain not not not not not not all;");
        Bench.faulty("rain not not not not not not not all;", 4, 29);
        Bench.shopOf("rain [[[[[[all]]]]]];");
        Bench.faulty("rain [[[[[[[all]]]]]]];", 4, 11);
        Bench.faulty("rain [[[not not not(1)=1]]];", 4, 19);
        Bench.shopOf("rain [[[not not(1)=1]]];");
        Bench.faulty("rain [[[[[[min(1,2)=1]]]]]];", 4, 14);
        Bench.shopOf("rain [[[[[max(1,2)=1]]]]];");
        // a not is shut when its fact ends, a bracket when it closes
        Bench.shopOf("rain [[[[[not row=1 and not all]]]]];");
        Bench.faulty("rain [[[[[not row=(2)]]]]];", 4, 18);
        Bench.shopOf("rain [[[[[not row=1 and (2)=2 and [all]]]]]];");
        Bench.shopOf("doubt (((((1)))))+((((((1))))))*((((((1))))));");
        Bench.shopOf("doubt ((((max((1),(2))))));");
        Bench.faulty("doubt (((((max((1),(2)))))));", 4, 15);
        // only where it could stand
        Bench.faulty("doubt ((((((1(", 1, 13);
    }

    private static void countFaults() {
        Bench.faulty("doubt 1;doubt 2;", 5, 8);
        Bench.faulty("rain all; rain", 5, 10);
        Bench.faulty(times(60, "hail 1;") + " hail 1;", 5, 421);
        Bench.faulty(times(60, "hail 1;") + " ?", 5, 421);
        due("blanks behind the 60th", Bench.shop(new TurnedBoards(), times(60, "hail 1;") + " \n"), 60);
        StringBuilder s = new StringBuilder();
        for (char c = 'a'; c < 'm'; c++) {
            s.append("letter ").append(c).append(" hand 1 is 1 1 1 1 1;");
        }
        int twelve = s.length();
        Bench.shopOf(s.toString());
        Bench.faulty(s + "letter z hand 1", 5, twelve + 14);
        Bench.faulty(s + "letter a hand 1", 5, twelve + 14);
        Bench.shopOf(s + "letter a hand 0 is 1 1 1 1 1;");
        String words = LETTERS + "word u;word n;word o;word p;word d;word uu;word nn;word oo;";
        Bench.shopOf(words);
        Bench.faulty(words + "word u", 5, words.length());
        Bench.faulty(words + "  word pp;", 5, words.length() + 2);
        String four = SHOP + "board up hand 0;board up hand 0;";
        Bench.shopOf(four);
        Bench.faulty(four + "board ?", 5, four.length());
    }

    // Promise 6
    private static void has() {
        TurnedBoards x = Bench.shopOf(SHOP + "rain row=0;");
        long[] want = {5, 2, 5, 2, 0, 50, 0, 0};
        for (int what = 0; what < 8; what++) {
            due("has(" + what + ")", x.has(what), want[what]);
        }
        due("years", x.years(1), 3 + 3 + 1 + 1 + 2);
        long[] then = {5, 2, 5, 2, 1, 40, 2, 1};
        for (int what = 0; what < 8; what++) {
            due("then has(" + what + ")", x.has(what), then[what]);
        }
        due("has(8)", x.has(8), NONE);
        due("has(-1)", x.has(-1), NONE);
    }

    // Promises 7, 8
    private static void told() {
        TurnedBoards x = Bench.shopOf(SHOP);
        due("letter u", x.letter(0, 0, 0), 21);
        due("glyph of p", x.letter(0, 3, 1), P);
        due("strokes of o", x.letter(0, 2, 2), 12);
        due("letter o of hand 1", x.letter(1, 0, 0), 15);
        due("glyph of o of hand 1", x.letter(1, 0, 1), Bench.rows(2, 5, 5, 5, 2));
        due("letter(0, 5, 0)", x.letter(0, 5, 0), NONE);
        due("letter(1, 2, 0)", x.letter(1, 2, 0), NONE);
        due("letter(2, 0, 0)", x.letter(2, 0, 0), NONE);
        due("letter(-1, 0, 0)", x.letter(-1, 0, 0), NONE);
        due("letter(0, -1, 0)", x.letter(0, -1, 0), NONE);
        due("letter(0, 0, 3)", x.letter(0, 0, 3), NONE);
        due("letter(0, 0, -1)", x.letter(0, 0, -1), NONE);
        due("word(4, 0)", x.word(4, 0), 16);
        due("word(4, 2)", x.word(4, 2), 4);
        due("word(4, 3)", x.word(4, 3), 0);
        due("word(4, 5)", x.word(4, 5), 0);
        due("word(4, 6)", x.word(4, 6), NONE);
        due("word(4, -1)", x.word(4, -1), NONE);
        due("word(5, 0)", x.word(5, 0), NONE);
        due("word(-1, 0)", x.word(-1, 0), NONE);
        TurnedBoards y = Bench.shopOf("letter a hand 0 is 0 0 0 0 0;word aaaaaa;");
        due("a word of six", y.word(0, 5), 1);
        due("a letter without strokes", y.letter(0, 0, 2), 0);
        TurnedBoards z = Bench.shopOf(LETTERS + "word pod;word up;word u;");
        due("nothing behind a shorter word", z.word(1, 2), 0);
        due("nothing behind a shorter word", z.word(2, 1), 0);
    }

    // Promises 9, 10
    private static void boards() {
        TurnedBoards x = Bench.shopOf(SHOP);
        due("board(0, 0)", x.board(0, 0), 4);
        due("board(0, 1)", x.board(0, 1), 0);
        due("board(0, 2)", x.board(0, 2), 3);
        due("board(1, 1)", x.board(1, 1), 1);
        due("board(0, 3)", x.board(0, 3), NONE);
        due("board(0, -1)", x.board(0, -1), NONE);
        due("board(2, 0)", x.board(2, 0), NONE);
        due("board(-1, 0)", x.board(-1, 0), NONE);
        due("glyph(0, 0)", x.glyph(0, 0), P);
        due("glyph(0, 2)", x.glyph(0, 2), D);
        due("glyph(1, 0)", x.glyph(1, 0), Bench.rows(2, 5, 5, 5, 2));
        due("glyph(0, 3)", x.glyph(0, 3), NONE);
        due("glyph(1, 2)", x.glyph(1, 2), NONE);
        due("glyph(0, -1)", x.glyph(0, -1), NONE);
        due("glyph(2, 0)", x.glyph(2, 0), NONE);
    }

    // Promise 11
    private static void kept() {
        TurnedBoards x = Bench.shopOf(LETTERS + WORDS + "board up hand 0;board on hand 0;rain year=2 and column<2;");
        x.years(5);
        due("kept of two", x.has(6), 2);
        due("kept(0, 0)", x.kept(0, 0), 2);
        due("kept(0, 1)", x.kept(0, 1), 0);
        due("kept(0, 2)", x.kept(0, 2), 2);
        due("kept(1, 0)", x.kept(1, 0), 2);
        due("kept(1, 1)", x.kept(1, 1), 1);
        due("kept(1, 3)", x.kept(1, 3), NONE);
        due("kept(1, -1)", x.kept(1, -1), NONE);
        due("kept(2, 0)", x.kept(2, 0), NONE);
        due("kept(-1, 0)", x.kept(-1, 0), NONE);
        // one letter becomes another: nothing is silent
        TurnedBoards y = Bench.shopOf(LETTERS + WORDS + "board on hand 0;forgive 1;rain year=1 and row=0 and column=1 or year=1 and row=0 and place=1;");
        y.years(3);
        due("o says u now", y.says(0, 0, 0, 0), 21);
        due("kept once", y.has(6), 1);
        due("one place silent", y.kept(0, 2), 1);
        // the last 40: paint anew, rain, again and again
        TurnedBoards z = Bench.shopOf(FULL + "rain all;");
        for (int i = 0; i < 45; i++) {
            due("painted", z.paint(0, 0, 0), true);
            due("lost", z.years(1), 15);
        }
        due("40 are told", z.has(6), 40);
        for (int k = 0; k < 40; k++) {
            due("told from the oldest on", z.kept(k, 0), 5 + k);
        }
        due("no 41st", z.kept(40, 0), NONE);
        z.undo();
        due("undone: the oldest told", z.kept(0, 0), 4);
        due("undone: the newest told", z.kept(39, 0), 43);
    }

    // Promise 12
    private static void seen() {
        TurnedBoards x = new TurnedBoards();
        for (int bit = 0; bit < 15; bit++) {
            int r = bit / 3;
            int c = bit % 3;
            due("as it is", x.seen(1 << bit, 0), 1 << 3 * r + c);
            due("half round", x.seen(1 << bit, 1), 1 << 3 * (4 - r) + 2 - c);
            due("in water", x.seen(1 << bit, 2), 1 << 3 * (4 - r) + c);
            due("from behind", x.seen(1 << bit, 3), 1 << 3 * r + 2 - c);
        }
        due("seen(0, 1)", x.seen(0, 1), 0);
        due("seen(32767, 3)", x.seen(32767, 3), 32767);
        due("seen(32768, 0)", x.seen(32768, 0), NONE);
        due("seen(-1, 0)", x.seen(-1, 0), NONE);
        due("seen(0, 4)", x.seen(0, 4), NONE);
        due("seen(0, -1)", x.seen(0, -1), NONE);
    }

    // Promise 13
    private static void doubt() {
        TurnedBoards x = Bench.shopOf(LETTERS);
        due("one more", x.doubt(0, 0, O), 1);
        due("one less", x.doubt(0, 2, U), 2);
        due("all less", x.doubt(0, 0, 0), 22);
        due("hand 1", x.doubt(1, 0, 32767), 7);
        due("no such letter", x.doubt(0, 5, 0), NOTHING);
        due("no such letter", x.doubt(0, -1, 0), NOTHING);
        due("no such hand", x.doubt(2, 0, 0), NOTHING);
        due("no such hand", x.doubt(-1, 0, 0), NOTHING);
        due("no glyph", x.doubt(0, 0, 32768), NOTHING);
        due("no glyph", x.doubt(0, 0, -1), NOTHING);
        due("cut at 0", Bench.shopOf(LETTERS + "doubt 1-ink;").doubt(0, 0, U), 0);
        due("more", Bench.shopOf(LETTERS + "doubt more;").doubt(0, 0, 2), 1);
        due("less", Bench.shopOf(LETTERS + "doubt less;").doubt(0, 0, 2), 11);
        due("ink", Bench.shopOf(LETTERS + "doubt ink;").doubt(0, 3, 2), 10);
    }

    private static void formulas() {
        value("1+2*3", 7);
        value("10-3-2", 5);
        value("100/7/2", 7);
        value("7*3/2", 10);
        value("(1+2)*3", 9);
        value("7/0", 0);
        value("0-7/2+10", 7);
        value("(0-7)/2+10", 6);
        value("(0-7)/(0-2)", 3);
        value("7/(0-2)+10", 6);
        value("(0-6)/2+10", 7);
        value("9999*9999", 1000000);
        value("9999*9999-1", 999999);
        value("0-9999*9999+1000*1000+5", 5);
        value("(0-9999)*9999+9999*100", -100);
        value("(0-9999)*9999+9999*101", 0);
        value("1000*1000+1-1", 999999);
        value("0-1000*1000-1+1000*1000+7", 7);
        value("min(3,5)", 3);
        value("max(3,5)", 5);
        value("min(max(1,2)+1,9)*2", 6);
        value("0007", 7);
        value("9999", 9999);
        value(times(700, "1+") + "1", 701);
    }

    private static void value(String sum, long want) {
        TurnedBoards x = Bench.shopOf("letter a hand 0 is 1 1 1 1 1;doubt " + sum + ";");
        due(sum, x.doubt(0, 0, 0), Math.max(0, want));
        TurnedBoards y = Bench.shopOf("letter a hand 0 is 1 1 1 1 1;word a;");
        due("total " + sum, Bench.ask(y, "total " + sum), want);
    }

    // Promise 14
    private static void reads() {
        TurnedBoards x = Bench.shopOf(LETTERS);
        due("u", x.reads(0, U, 0), 21);
        due("n turned", x.reads(0, N, 1), 21);
        due("u in water", x.reads(0, U, 2), 14);
        due("p turned", x.reads(0, P, 1), 4);
        due("p in water", x.reads(0, P, 2), 0);
        due("nothing there", x.reads(0, 0, 0), 0);
        due("hand 1", x.reads(1, Bench.rows(2, 5, 5, 5, 2), 3), 15);
        due("no such hand", x.reads(2, U, 0), NONE);
        due("no such hand", x.reads(-1, U, 0), NONE);
        due("no such view", x.reads(0, U, 4), NONE);
        due("no such view", x.reads(0, U, -1), NONE);
        due("no glyph", x.reads(0, 32768, 0), NONE);
        due("no glyph", x.reads(0, -1, 0), NONE);
        due("no letters", new TurnedBoards().reads(1, 5, 0), 0);
        // of like ones the first told; u lacks one of o, has one too many of neither
        due("like ones", Bench.shopOf("letter b hand 0 is 7 7 7 7 7;letter a hand 0 is 7 7 7 7 7;").reads(0, 32767, 0), 2);
        String sum = "letter b hand 0 is 7 7 7 7 7;letter a hand 0 is 7 7 7 7 6;doubt more+less-2;";
        due("like ones, cut at 0", Bench.shopOf(sum).reads(0, Bench.rows(7, 7, 7, 7, 6), 0), 2);
        due("forgiven", Bench.shopOf(LETTERS + "forgive 22;").reads(0, 0, 0) > 0, true);
        due("not forgiven", Bench.shopOf(LETTERS + "forgive 19;").reads(0, 0, 0), 0);
        due("just forgiven", Bench.shopOf(LETTERS + "forgive 20;").reads(0, 0, 0), 16);
        due("the last forgive counts", Bench.shopOf(LETTERS + "forgive 20;forgive 19;").reads(0, 0, 0), 0);
        due("2 without", x.reads(0, O ^ 1, 0), 15);
        due("3 is too much", x.reads(0, O ^ 1 ^ 16, 0), 0);
    }

    // Promise 15
    private static void says() {
        TurnedBoards x = Bench.shopOf(SHOP + "rain row=0 and near<2;");
        due("seen 0", x.says(0, 0, 0, 0), 16);
        due("seen 0", x.says(0, 0, 0, 2), 4);
        due("seen 1 from the last on", x.says(0, 1, 0, 0), 16);
        due("seen 1 from the last on", x.says(0, 1, 0, 2), 4);
        due("seen 3 from the last on", x.says(0, 3, 0, 1), 15);
        due("seen 1 of on", x.says(1, 1, 0, 0), 0);
        due("seen 1 of on", x.says(1, 1, 0, 1), 15);
        due("seen 2 of on", x.says(1, 2, 0, 0), 15);
        due("seen 3 of on", x.says(1, 3, 0, 1), 15);
        due("one year ahead", x.says(1, 0, 1, 1), 14);
        due("two years ahead", x.says(1, 0, 2, 1), 0);
        due("60 years ahead", x.says(1, 0, 60, 0), 15);
        due("61 years ahead", x.says(1, 0, 61, 0), NONE);
        due("-1 years ahead", x.says(1, 0, -1, 0), NONE);
        due("no such view", x.says(1, 4, 0, 0), NONE);
        due("no such view", x.says(1, -1, 0, 0), NONE);
        due("no such place", x.says(1, 0, 0, 2), NONE);
        due("no such place", x.says(1, 0, 0, -1), NONE);
        due("no such board", x.says(2, 0, 0, 0), NONE);
        due("no such board", x.says(-1, 0, 0, 0), NONE);
        due("looking changes nothing", x.has(5), 50);
        for (int i = 0; i < 9; i++) {
            x.years(100);
        }
        x.years(60);
        due("39 years are left", x.says(0, 0, 39, 0), 16);
        due("40 years are not", x.says(0, 0, 40, 0), NONE);
        // the years ahead know their number
        TurnedBoards y = Bench.shopOf(FULL + "rain year=3;");
        due("year 3 is not over", y.says(0, 0, 3, 0), 1);
        due("year 3 is over", y.says(0, 0, 4, 0), 0);
        y.years(2);
        due("year 3 is not over", y.says(0, 0, 1, 0), 1);
        due("year 3 is over", y.says(0, 0, 2, 0), 0);
    }

    // Promise 16
    private static void becomes() {
        TurnedBoards x = Bench.shopOf(SHOP);
        due("up turned", x.becomes(0, 0, 1), 1);
        due("dn turned", x.becomes(1, 0, 1), 0);
        due("pod turned", x.becomes(4, 0, 1), 4);
        due("on turned", x.becomes(2, 0, 1), 3);
        due("as it is", x.becomes(4, 0, 0), 4);
        due("in water no word", x.becomes(2, 0, 2), NONE);
        due("from behind no word", x.becomes(2, 0, 3), NONE);
        due("can't be painted", x.becomes(0, 1, 0), NONE);
        due("in hand 1", x.becomes(2, 1, 0), 2);
        due("no such view", x.becomes(0, 0, 4), NONE);
        due("no such hand", x.becomes(0, 2, 0), NONE);
        due("no such hand", x.becomes(0, -1, 0), NONE);
        due("no such word", x.becomes(5, 0, 0), NONE);
        due("no such word", x.becomes(-1, 0, 0), NONE);
        TurnedBoards y = Bench.shopOf(LETTERS + "word no; word ou;word on;");
        due("no in water is uo, which is none", y.becomes(0, 0, 2), NONE);
        due("on in water is ou", y.becomes(2, 0, 2), 1);
        due("no from behind is on", y.becomes(0, 0, 3), 2);
    }

    // Promises 17, 18
    private static void lines() {
        TurnedBoards x = Bench.shopOf(SHOP);
        due("up over dn: doubt", x.line(0, 1, 0, 0), 0);
        due("up over dn: strokes", x.line(0, 1, 0, 1), 21);
        due("up over dn: pieces", x.line(0, 1, 0, 2), 2);
        due("first piece", x.piece(0, 1, 0, 0, 0), 0);
        due("first glyph", x.piece(0, 1, 0, 0, 1), U);
        due("second glyph", x.piece(0, 1, 0, 1, 1), P);
        due("no third", x.piece(0, 1, 0, 2, 1), NONE);
        due("no piece -1", x.piece(0, 1, 0, -1, 1), NONE);
        due("piece what 2", x.piece(0, 1, 0, 0, 2), NONE);
        due("piece what -1", x.piece(0, 1, 0, 0, -1), NONE);
        due("pod over up: doubt", x.line(4, 0, 0, 0), 27);
        due("pod over up: pieces", x.line(4, 0, 0, 2), 4);
        int[] whom = {1, 1, 0, 2};
        int[] glyphs = {P, O, D, N};
        for (int k = 0; k < 4; k++) {
            due("pod over up: whom", x.piece(4, 0, 0, k, 0), whom[k]);
            due("pod over up: glyph", x.piece(4, 0, 0, k, 1), glyphs[k]);
        }
        due("hand 1", x.line(2, 2, 1, 0), 18);
        due("hand 1 can't", x.line(2, 0, 1, 0), NONE);
        due("hand 1 can't", x.line(0, 2, 1, 0), NONE);
        due("hand 1 can't", x.piece(0, 2, 1, 0, 0), NONE);
        due("no such word", x.line(5, 0, 0, 0), NONE);
        due("no such word", x.line(0, 5, 0, 0), NONE);
        due("no such word", x.line(-1, 0, 0, 0), NONE);
        due("no such word", x.piece(0, -1, 0, 0, 0), NONE);
        due("no such hand", x.line(0, 0, 2, 0), NONE);
        due("no such hand", x.line(0, 0, -1, 0), NONE);
        due("line what 3", x.line(0, 0, 0, 3), NONE);
        due("line what -1", x.line(0, 0, 0, -1), NONE);
        // another shop: what was found of the old one is forgotten
        Bench.shop(x, LETTERS + "word dd;word pp;blank 1;");
        due("dd over pp: doubt", x.line(0, 1, 0, 0), 0);
        Bench.shop(x, LETTERS + "word up;word pp;blank 1;forgive 0;");
        due("up over pp: doubt", x.line(0, 1, 0, 0), 4);
    }

    private static void lineOrder() {
        String head = "letter a hand 0 is 7 7 7 7 7;letter b hand 0 is 7 7 7 7 6;word a;word b;";
        // b turned lacks the stroke at row 0, column 0
        TurnedBoards x = Bench.shopOf(head + "doubt more+less;");
        due("of like doubt the fewest strokes", x.piece(0, 1, 0, 0, 1), 32766);
        due("of like doubt the fewest strokes", x.line(0, 1, 0, 1), 14);
        // two b: one lacks its last stroke, the other, turned, its first: both strokes or none of them are 2 off
        TurnedBoards y = Bench.shopOf(head + "doubt more+less;");
        due("b over b: doubt", y.line(1, 1, 0, 0), 2);
        due("b over b: those that both have", y.piece(1, 1, 0, 0, 1), 32766 & Bench.rows(7, 7, 7, 7, 6));
        TurnedBoards z = Bench.shopOf(head + "doubt more*0+less;");
        due("b over b by less: strokes of both", z.line(1, 1, 0, 0), 0);
        due("b over b by less: strokes of both", z.piece(1, 1, 0, 0, 1), 32767);
        TurnedBoards w = Bench.shopOf(head + "doubt (more+less)/9;");
        due("those that both have have fewest", w.piece(1, 1, 0, 0, 1), 32766 & Bench.rows(7, 7, 7, 7, 6));
        // the letter of the one and that of the other are alike, and better than what joins them
        String asym = "letter a hand 0 is 3 0 0 0 0;letter b hand 0 is 0 0 0 0 3;word a;word b;forgive 9;";
        TurnedBoards v = Bench.shopOf(asym + "doubt (more-less)*(more-less);");
        due("the letter of the one first", v.piece(0, 1, 0, 0, 1), Bench.rows(3, 0, 0, 0, 0));
        due("the letter of the one first", v.piece(1, 0, 0, 0, 1), Bench.rows(0, 0, 0, 0, 3));
        // blanks as cheap as both: both first; of the two alone the one's first
        TurnedBoards u = Bench.shopOf("letter a hand 0 is 7 0 0 0 0;word a;forgive 0;blank 0;");
        due("alone: pieces", u.line(0, 0, 0, 2), 2);
        due("alone: the one's first", u.piece(0, 0, 0, 0, 0), 1);
        due("alone: its letter", u.piece(0, 0, 0, 0, 1), 7);
        due("alone: the other's then", u.piece(0, 0, 0, 1, 0), 2);
        due("alone: turned", u.piece(0, 0, 0, 1, 1), 7 << 12);
        TurnedBoards t = Bench.shopOf("letter a hand 0 is 0 0 0 0 0;word a;blank 0;");
        due("both ahead of alone", t.line(0, 0, 0, 2), 1);
        TurnedBoards s = Bench.shopOf("letter a hand 0 is 0 0 0 0 0;word aa;word a;blank 0;");
        due("both first, then the one", s.piece(0, 1, 0, 0, 0), 0);
        due("both first, then the one", s.piece(0, 1, 0, 1, 0), 1);
        due("both first, then the other", s.piece(1, 0, 0, 1, 0), 2);
        // the letters of the other from its last on
        TurnedBoards r = Bench.shopOf(LETTERS + "word up;word un;forgive 0;blank 0;");
        due("un is met from its n on", r.piece(0, 1, 0, 0, 1), U);
        due("un is met from its n on", r.piece(0, 1, 0, 0, 0), 0);
        // six letters each, all alone
        TurnedBoards q = Bench.shopOf("letter a hand 0 is 7 0 0 0 0;word aaaaaa;forgive 0;blank 99;");
        due("twelve pieces", q.line(0, 0, 0, 2), 12);
        due("twelve blanks", q.line(0, 0, 0, 0), 12 * 99);
        due("twelve pieces' strokes", q.line(0, 0, 0, 1), 36);
    }

    // Promises 19, 20
    private static void bestAndHand() {
        TurnedBoards x = Bench.shopOf(SHOP);
        due("best of up", x.best(0), 1);
        due("best of dn", x.best(1), 0);
        due("best of on", x.best(2), 3);
        due("best of pod", x.best(4), 4);
        due("no such word", x.best(5), NONE);
        due("no such word", x.best(-1), NONE);
        due("of like ones the first", Bench.shopOf(LETTERS + "word u;word p;word d;word dd;forgive 0;blank 0;").best(2), 0);
        due("hand 0 alone", x.hand(0, 1), 0);
        due("hand of on, on", x.hand(2, 2), 0);
        due("no such word", x.hand(5, 0), NONE);
        due("no such word", x.hand(0, -1), NONE);
        String hands = "letter a hand 0 is 7 0 0 0 0;letter a hand 1 is 7 0 0 0 7;word a;";
        due("hand 1 is better", Bench.shopOf(hands).hand(0, 0), 1);
        due("of like ones hand 0", Bench.shopOf(hands.replace("7 0 0 0 0", "1 0 0 0 4")).hand(0, 0), 0);
    }

    // Promise 21
    private static void been() {
        TurnedBoards x = Bench.shopOf(LETTERS + "word u;word n;word o;word on;board u hand 0;board on hand 1;");
        due("u or o", x.been(0), 1 + 4);
        x.stroke(0, 0, 13, 0);
        due("u, n or o", x.been(0), 1 + 2 + 4);
        x.stroke(0, 0, 4, 1);
        due("none", x.been(0), 0);
        due("hand 1", x.been(1), 8);
        due("no such board", x.been(2), NONE);
        due("no such board", x.been(-1), NONE);
        TurnedBoards y = Bench.shopOf(LETTERS + "word n;word u;board n hand 1;");
        for (int bit = 0; bit < 15; bit++) {
            y.stroke(0, 0, bit, 0);
        }
        due("a word that its hand can't paint is none", y.been(0), 1);
    }

    // Promise 22
    private static void lasts() {
        TurnedBoards x = Bench.shopOf(SHOP + "rain row=0 and near<2;");
        due("for ever", x.lasts(0), 60);
        due("one year", x.lasts(1), 1);
        due("no such board", x.lasts(2), NONE);
        due("no such board", x.lasts(-1), NONE);
        x.years(1);
        due("no year more", x.lasts(1), 0);
        x.years(1);
        due("no longer", x.lasts(1), NONE);
        x.paint(1, 3, 0);
        due("painted anew, lost in a year", x.lasts(1), 0);
        x.paint(1, 4, 0);
        due("painted anew, for ever", x.lasts(1), 60);
        for (int i = 0; i < 9; i++) {
            x.years(100);
        }
        x.years(90);
        due("not beyond 999", x.lasts(0), 999 - 992);
        TurnedBoards z = Bench.shopOf(FULL + "rain year>11;");
        due("till year 12 is over", z.lasts(0), 12);
        z.years(5);
        due("till year 12 is over", z.lasts(0), 7);
        // what it says must be its word, even if it says another
        TurnedBoards y = Bench.shopOf(LETTERS + "word u;word o;board o hand 0;");
        y.stroke(0, 0, 1, 0);
        due("o says u", y.says(0, 0, 0, 0), 21);
        due("that is not its word", y.lasts(0), NONE);
    }

    // Promise 23
    private static void mend() {
        TurnedBoards x = Bench.shopOf(SHOP);
        due("it says so", x.mend(0, 2, 4), 0);
        due("p to o", x.mend(0, 0, 2), 3);
        due("p never u", x.mend(0, 0, 0), NONE);
        due("no such letter", x.mend(0, 0, 5), NONE);
        due("no such letter", x.mend(0, 0, -1), NONE);
        due("no such letter of hand 1", x.mend(1, 0, 2), NONE);
        due("no such place", x.mend(0, 3, 0), NONE);
        due("no such place", x.mend(0, -1, 0), NONE);
        due("no such board", x.mend(2, 0, 0), NONE);
        // in the order of bits: the first stroke would do, but only behind others is it reached
        TurnedBoards y = Bench.shopOf(FULL + "letter b hand 0 is 0 0 0 0 0;forgive 3;doubt more+less;");
        for (int bit = 0; bit < 15; bit++) {
            y.stroke(0, 0, bit, 0);
        }
        due("twelve of fifteen", y.mend(0, 0, 0), 12);
        due("nothing is b", y.mend(0, 0, 1), 0);
        TurnedBoards z = Bench.shopOf("letter a hand 0 is 7 7 7 7 7;letter b hand 0 is 7 7 7 7 7;word a;board a hand 0;");
        due("of like ones it reads as the first", z.mend(0, 0, 1), NONE);
        TurnedBoards w = Bench.shopOf("letter a hand 0 is 0 0 0 0 7;letter b hand 0 is 7 0 0 0 7;word a;board a hand 0;doubt more+less;forgive 9;");
        due("a becomes b by the second stroke", w.mend(0, 0, 1), 2);
        due("mending changes nothing", w.glyph(0, 0), 7 << 12);
    }

    // Promise 24
    private static void years() {
        TurnedBoards x = Bench.shopOf(FULL + "rain column=0;");
        due("years(0)", x.years(0), NONE);
        due("years(-1)", x.years(-1), NONE);
        due("years(101)", x.years(101), NONE);
        due("refused", x.status(3), 3);
        due("years(2)", x.years(2), 5);
        due("two years", x.has(4), 2);
        due("one act", x.has(7), 1);
        due("years(100)", x.years(100), 0);
        for (int i = 0; i < 8; i++) {
            due("years(100)", x.years(100), 0);
        }
        due("years(98)", x.years(98), NONE);
        due("years(97)", x.years(97), 0);
        due("year 999", x.has(4), 999);
        due("years(1)", x.years(1), NONE);
        due("chance(1)", x.chance(1), NONE);
        due("refused", x.status(3), 6);
        due("never without", Bench.shopOf(SHOP).years(100), 0);
    }

    private static void rain() {
        washed("column=0", Bench.rows(3, 3, 3, 3, 3));
        washed("column=2", Bench.rows(6, 6, 6, 6, 6));
        washed("row=0", Bench.rows(0, 7, 7, 7, 7));
        washed("row>3", Bench.rows(7, 7, 7, 7, 0));
        washed("near<3", Bench.rows(2, 7, 7, 7, 2));
        washed("near=4", Bench.rows(7, 5, 5, 5, 7));
        washed("year=0", 0);
        washed("year=1", 32767);
        washed("place=1", 32767);
        washed("place=0", 0);
        washed("all", 0);
        washed("not all", 32767);
        washed("row=0 or row=1 and column=0", Bench.rows(0, 3, 7, 7, 7));
        washed("[row=0 or row=1] and column=0", Bench.rows(3, 3, 7, 7, 7));
        washed("not row=0 and column=0", Bench.rows(7, 3, 3, 3, 3));
        washed("not [row=0 and column=0]", Bench.rows(4, 0, 0, 0, 0));
        washed("not not row=0", Bench.rows(0, 7, 7, 7, 7));
        washed("row*3+column<4", Bench.rows(0, 3, 7, 7, 7));
        // of all at once: what is lost does not count as lost for its neighbours
        washed("near<3 and row<3", Bench.rows(2, 7, 7, 7, 7));
        TurnedBoards x = Bench.shopOf("letter a hand 0 is 7 7 7 7 7;word aaa;board aaa hand 0;board aaa hand 0;rain place=2;");
        due("the last of three places, on two boards", x.years(1), 30);
        due("place 0", x.glyph(1, 0), 32767);
        due("place 2", x.glyph(1, 2), 0);
    }

    private static void washed(String test, int left) {
        TurnedBoards x = Bench.shopOf(FULL + "rain " + test + ";");
        due("lost by " + test, x.years(1), 15 - Integer.bitCount(left));
        due("left by " + test, x.glyph(0, 0), left);
    }

    // Promise 25
    private static void chance() {
        TurnedBoards x = Bench.shopOf(FULL + "hail 100;");
        due("chance(0)", x.chance(0), NONE);
        due("chance(101)", x.chance(101), NONE);
        due("refused", x.status(3), 2);
        due("chance(1)", x.chance(1), 1);
        due("chance(1)", x.glyph(0, 0), 32766);
        due("chance(1)", x.chance(1), 1);
        due("chance(1)", x.glyph(0, 0), 28670);
        // the same by hand
        TurnedBoards y = Bench.shopOf(SHOP + "hail 60;rain row=0 and place=1;");
        long seed = 77;
        y.seed(77);
        int[] glyphs = {P, O, D};
        int[] second = {Bench.rows(2, 5, 5, 5, 2), Bench.rows(6, 5, 5, 5, 5)};
        int hail = 0;
        for (int i = 0; i < 30; i++) {
            seed = next(seed);
            if (seed / 64 % 100 < 60) {
                seed = next(seed);
                int[] board = seed / 64 % 2 == 0 ? glyphs : second;
                seed = next(seed);
                int place = (int) (seed / 64 % board.length);
                seed = next(seed);
                int bit = (int) (seed / 64 % 15);
                hail += board[place] >> bit & 1;
                board[place] &= ~(1 << bit);
            }
            glyphs[1] &= ~7;
            second[1] &= ~7;
        }
        due("30 years by the seed", y.chance(30), hail);
        due("one act", y.has(7), 1);
        due("year 30", y.has(4), 30);
        for (int p = 0; p < 3; p++) {
            due("place " + p, y.glyph(0, p), glyphs[p]);
        }
        for (int p = 0; p < 2; p++) {
            due("place " + p, y.glyph(1, p), second[p]);
        }
        y.undo();
        due("all back", y.has(5), 50);
        due("the seed stays", y.chance(100) >= 0, true);
        due("no hail without", Bench.shopOf(SHOP).chance(100), 0);
        due("no boards", Bench.shopOf("hail 100;").chance(100), 0);
        int zero = 0;
        while (next(zero) / 64 % 100 != 0) {
            zero++;
        }
        TurnedBoards z = Bench.shopOf(FULL);
        z.seed(zero);
        due("a draw of 0 is not below 0", z.chance(1), 0);
        Bench.shop(z, FULL + "hail 1;");
        z.seed(zero);
        due("a draw of 0 is below 1", z.chance(1), 1);
    }

    private static long next(long seed) {
        return (1103515245L * seed + 12345) % 2147483648L;
    }

    // Promises 26, 27
    private static void strokeAndPaint() {
        TurnedBoards x = Bench.shopOf(SHOP);
        due("painted", x.stroke(0, 0, 14, 1), true);
        due("painted", x.glyph(0, 0), P | 1 << 14);
        due("so already", x.stroke(0, 0, 14, 1), false);
        due("scraped", x.stroke(0, 0, 14, 0), true);
        due("scraped", x.glyph(0, 0), P);
        due("so already", x.stroke(0, 0, 14, 0), false);
        due("no such stroke", x.stroke(0, 0, 15, 1), false);
        due("no such stroke", x.stroke(0, 0, -1, 1), false);
        due("no such place", x.stroke(0, 3, 0, 1), false);
        due("no such place", x.stroke(0, -1, 0, 1), false);
        due("no such board", x.stroke(2, 0, 0, 1), false);
        due("no such board", x.stroke(-1, 0, 0, 1), false);
        due("on 2", x.stroke(0, 0, 14, 2), false);
        due("on -1", x.stroke(0, 0, 14, -1), false);
        due("refused", x.status(2), 10);
        due("acts", x.has(7), 2);
        due("anew", x.paint(0, 0, 0), true);
        due("its word", x.board(0, 0), 0);
        due("its places", x.board(0, 2), 2);
        due("its glyph", x.glyph(0, 0), U);
        due("no third place", x.glyph(0, 2), NONE);
        due("strokes", x.has(5), 11 + 10 + 8 + 10);
        due("in hand 1", x.paint(0, 2, 1), true);
        due("its hand", x.board(0, 1), 1);
        due("the same again", x.paint(0, 2, 1), true);
        due("can't be", x.paint(0, 0, 1), false);
        due("no such word", x.paint(0, 5, 0), false);
        due("no such word", x.paint(0, -1, 0), false);
        due("no such hand", x.paint(0, 0, 2), false);
        due("no such hand", x.paint(0, 0, -1), false);
        due("no such board", x.paint(2, 0, 0), false);
        due("no such board", x.paint(-1, 0, 0), false);
        due("refused", x.status(2), 17);
        due("acts", x.has(7), 5);
    }

    // Promise 28
    private static void undo() {
        TurnedBoards x = Bench.shopOf(SHOP + "rain row=0;");
        due("nothing to undo", x.undo(), false);
        due("refused", x.status(4), 1);
        x.years(2);
        x.paint(0, 0, 0);
        x.stroke(1, 0, 0, 1);
        due("undo", x.undo(), true);
        due("the stroke is gone", x.glyph(1, 0) & 1, 0);
        due("undo", x.undo(), true);
        due("its old word", x.board(0, 0), 4);
        due("its old places", x.glyph(0, 2), D & ~7);
        due("kept", x.has(6), 2);
        due("undo", x.undo(), true);
        due("the year", x.has(4), 0);
        due("nothing kept", x.has(6), 0);
        due("the strokes", x.has(5), 50);
        due("undo", x.undo(), false);
        due("refused", x.status(4), 2);
        for (int i = 0; i < 25; i++) {
            x.years(1);
        }
        due("20 can be undone", x.has(7), 20);
        for (int i = 0; i < 20; i++) {
            due("undo", x.undo(), true);
        }
        due("no more", x.undo(), false);
        due("the year", x.has(4), 5);
        due("refused acts are none", x.years(0), NONE);
        due("nothing to undo", x.has(7), 0);
    }

    // Promise 29
    private static void seed() {
        TurnedBoards x = Bench.shopOf(FULL + "hail 50;");
        TurnedBoards y = Bench.shopOf(FULL + "hail 50;");
        due("seed(1)", y.seed(1), true);
        due("it is 1 at first", x.chance(20), y.chance(20));
        due("it is 1 at first", x.glyph(0, 0), y.glyph(0, 0));
        due("seed(-1)", x.seed(-1), false);
        due("refused", x.status(5), 1);
        due("seed(0)", x.seed(0), true);
        due("seed(max)", x.seed(Integer.MAX_VALUE), true);
        due("seed(min)", x.seed(Integer.MIN_VALUE), false);
        TurnedBoards z = Bench.shopOf(FULL + "hail 100;");
        z.seed(Integer.MAX_VALUE);
        z.chance(1);
        long bit = next(next(next(next(Integer.MAX_VALUE)))) / 64 % 15;
        due("the fourth draw", z.glyph(0, 0), 32767 - (1 << bit));
    }

    // Promise 30
    private static void questions() {
        TurnedBoards x = Bench.shopOf(SHOP);
        answer(x, "often all", 5);
        answer(x, "often not all", 0);
        answer(x, "first long=3", 4);
        answer(x, "first long=2", 0);
        answer(x, "last long=2", 3);
        answer(x, "first long=4", NONE);
        answer(x, "last long=4", NONE);
        answer(x, "often number>1 and number<4", 2);
        answer(x, "total long", 11);
        answer(x, "total number", 10);
        answer(x, "total ink", 21 + 21 + 23 + 23 + 32);
        answer(x, "most ink", 32);
        answer(x, "least ink", 21);
        answer(x, "most 0-number", 0);
        answer(x, "least 0-number", -4);
        answer(x, "most 0-number-5", -5);
        answer(x, "first at 0=21", 0);
        answer(x, "last at 0=21", 3);
        answer(x, "total at 2", 4 - 4);
        answer(x, "least at 6", -1);
        answer(x, "least at(0-1)", -1);
        answer(x, "most at(long-1)", 16);
        answer(x, "first line number>0", 0);
        answer(x, "least line 1", 0);
        answer(x, "most line 5", -1);
        answer(x, "most line(0-1)", -1);
        answer(x, "total year", 0);
        answer(x, "total 9999*9999", 5000000);
        answer(x, "total 0-9999*9999", -5000000);
        answer(x, "\n often\nall ", 5);
        answer(x, "first number=at number-16", NONE);
        answer(x, "last line at 5 = 0-1", 4);
        for (int w = 0; w < 5; w++) {
            for (int v = 0; v < 5; v++) {
                answer(x, "total line " + v + "*(1-min(1,(number-" + w + ")*(number-" + w + ")))", x.line(w, v, 0, 0));
            }
        }
        x.years(7);
        answer(x, "most year", 7);
        answer(x, "often ((((((1))))))=1", 5);
        answer(x, "total line at line at line 0", Bench.ask(x, "total line at line at(line 0)"));
        TurnedBoards y = new TurnedBoards();
        for (String kind : new String[] {"total", "most", "least"}) {
            answer(y, kind + " 5", 0);
        }
        answer(y, "often all", 0);
        answer(y, "first all", NONE);
        answer(y, "last all", NONE);
        answer(y, "most year", 0);
        y.ask();
        due("fault of nothing asked", y.fault(0), 1);
        due("its place", y.fault(1), 0);
        due("asking is not refused", y.status(1), 0);
        Bench.ask(y, "often all");
        due("no fault", y.fault(0), 0);
        due("no place", y.fault(1), NONE);
        due("the tape is gone", y.end(1), false);
    }

    private static void answer(TurnedBoards x, String question, long want) {
        due(question, Bench.ask(x, question), want);
        due("fault of " + question, x.fault(0), 0);
    }

    private static void questionFaults() {
        TurnedBoards x = Bench.shopOf(SHOP);
        Bench.faultyAsk(x, "", 1, 0);
        Bench.faultyAsk(x, "  ", 1, 2);
        Bench.faultyAsk(x, "never all", 1, 0);
        Bench.faultyAsk(x, "often", 1, 5);
        Bench.faultyAsk(x, "often long", 1, 10);
        Bench.faultyAsk(x, "often all;", 1, 9);
        Bench.faultyAsk(x, "often all all", 1, 10);
        Bench.faultyAsk(x, "often all 12345", 1, 10);
        Bench.faultyAsk(x, "total all", 1, 6);
        Bench.faultyAsk(x, "total long=2", 1, 10);
        Bench.faultyAsk(x, "total more", 1, 6);
        Bench.faultyAsk(x, "total row", 1, 6);
        Bench.faultyAsk(x, "total longs", 1, 6);
        Bench.faultyAsk(x, "total 12345", 1, 10);
        Bench.faultyAsk(x, "total line", 1, 10);
        Bench.faultyAsk(x, "total line0", 1, 10);
        Bench.faultyAsk(x, "total line +", 1, 11);
        Bench.faultyAsk(x, "total at 1 2", 1, 11);
        Bench.faultyAsk(x, "total5", 1, 5);
        Bench.faultyAsk(x, "total line line line line line line line 0", 4, 36);
        Bench.faultyAsk(x, "total at at at at at at at 0", 4, 24);
        Bench.faultyAsk(x, "often [not [at line at line 0=1]]", 4, 23);
        Bench.faultyAsk(x, "total line line line((((0))))", 4, 23);
        answer(x, "total line line line line line line 0*0", 0);
        // line and at are shut when their part ends
        answer(x, "total (((((at 0+at 0+line 0*(1)+min(1,1)-at 0-at 0-line 0-1)))))", 0);
        Bench.faultyAsk(x, "total at(at(at(at 0)))", 4, 18 - 3);
        due("faults of questions are not refused", x.status(1), 0);
    }

    // Promises 31, 32
    private static void images() {
        TurnedBoards x = Bench.shopOf(SHOP);
        x.years(100);
        x.years(100);
        x.years(100);
        due("image()", x.image(), 31);
        int[] want = {1, 44, 4, 0, P >> 8, P & 255, O >> 8, O & 255, D >> 8, D & 255, 0, 0, 0, 0, 0, 0,
            2, 1, 11114 >> 8, 11114 & 255, 23403 >> 8, 23403 & 255, 0, 0, 0, 0, 0, 0, 0, 0};
        int c = 223;
        for (int k = 0; k < want.length; k++) {
            due("octet(" + k + ")", x.octet(k), want[k]);
            c = (3 * c + want[k]) % 251;
        }
        due("octet(30)", x.octet(30), c);
        due("octet(31)", x.octet(31), NONE);
        due("octet(-1)", x.octet(-1), NONE);
        x.stroke(0, 0, 0, 0);
        due("of the latest image()", x.octet(5), P & 255);
        x.image();
        due("of the new image()", x.octet(5), P & 254);
        Bench.shop(x, "");
        due("it stays", x.octet(5), P & 254);
        due("without boards", x.image(), 3);
    }

    // Promise 33
    private static void on() {
        TurnedBoards x = Bench.shopOf(SHOP + "rain row=0;");
        x.years(1);
        byte[] image = Bench.imageOf(x);
        x.years(3);
        x.paint(0, 0, 0);
        Bench.put(x, image);
        due("on()", x.on(), true);
        due("the year", x.has(4), 1);
        due("the word", x.board(0, 0), 4);
        due("the strokes", x.has(5), 40);
        due("nothing kept", x.has(6), 0);
        due("nothing to undo", x.has(7), 0);
        due("the tape is gone", x.end(1), false);
        refuses(x, image, 0, 4, "year");
        refuses(x, image, 2, 5, "word");
        refuses(x, image, 3, 2, "hand");
        refuses(x, image, 3, 1, "a hand that can't paint it");
        refuses(x, image, 4, 128, "glyph");
        refuses(x, image, 10, 1, "a stroke behind the last place");
        refuses(x, image, 15, 1, "a stroke behind the last place");
        refuses(x, image, 16, 0, "a word that hand 1 can't paint");
        byte[] spoilt = image.clone();
        spoilt[30]++;
        Bench.put(x, spoilt);
        due("a wrong last byte", x.on(), false);
        Bench.put(x, java.util.Arrays.copyOf(image, 30));
        due("too short", x.on(), false);
        Bench.put(x, java.util.Arrays.copyOf(image, 32));
        due("too long", x.on(), false);
        due("nothing fed", x.on(), false);
        due("refused", x.status(5), 12);
        due("all stays", x.has(5), 40);
        // another word with fewer places, year 999, a full glyph
        byte[] other = image.clone();
        other[0] = 3;
        other[1] = (byte) 231;
        other[2] = 0;
        other[4] = 127;
        other[5] = (byte) 255;
        other[8] = 0;
        other[9] = 0;
        Bench.put(x, Bench.sealed(other));
        due("what could be", x.on(), true);
        due("year 999", x.has(4), 999);
        due("word 0", x.board(0, 0), 0);
        due("two places", x.board(0, 2), 2);
        due("a full glyph", x.glyph(0, 0), 32767);
        other[1] = (byte) 232;
        Bench.put(x, Bench.sealed(other));
        due("year 1000", x.on(), false);
        x.stroke(0, 0, 3, 0);
        due("acts go on", x.has(7), 1);
        due("nothing kept is told of an image of no boards", Bench.shopOf("").on(), false);
    }

    private static void refuses(TurnedBoards x, byte[] image, int at, int octet, String why) {
        byte[] changed = image.clone();
        changed[at] = (byte) octet;
        Bench.put(x, Bench.sealed(changed));
        due("refused: " + why, x.on(), false);
        due("all stays: " + why, x.has(4), 1);
        due("the tape is gone: " + why, x.end(1), false);
        x.end(0);
    }

    // Promise 34
    private static void status() {
        TurnedBoards x = Bench.shopOf(SHOP);
        x.end(1);
        x.feed(0, 0, 0, 0, 0);
        x.shop();
        x.stroke(9, 0, 0, 0);
        x.paint(9, 0, 0);
        x.paint(0, 0, 1);
        x.years(0);
        x.chance(0);
        x.years(101);
        x.chance(-5);
        x.undo();
        x.undo();
        x.undo();
        x.undo();
        x.undo();
        x.seed(-1);
        x.seed(-1);
        x.on();
        x.on();
        x.on();
        x.on();
        long[] want = {1, 1, 3, 4, 5, 6};
        for (int what = 0; what < 6; what++) {
            due("status(" + what + ")", x.status(what), want[what]);
        }
        due("status(6)", x.status(6), NONE);
        due("status(-1)", x.status(-1), NONE);
    }

    /** Many dear calls: what they make must fit into one room. */
    private static void roomIsKept() {
        TurnedBoards x = Bench.shopOf(SHOP + "rain row=0 and near<2;hail 90;");
        com.sun.management.ThreadMXBean bean =
                (com.sun.management.ThreadMXBean) java.lang.management.ManagementFactory.getThreadMXBean();
        long before = bean.getThreadAllocatedBytes(Thread.currentThread().getId());
        long used = 0;
        for (int i = 0; i < 500; i++) {
            x.undo();
            x.chance(100);
            x.lasts(0);
            x.best(4);
            x.piece(4, 0, 0, i % 5, 1);
            x.image();
        }
        used = bean.getThreadAllocatedBytes(Thread.currentThread().getId()) - before;
        due("calls make next to nothing: " + used, used < 100000, true);
    }
}
