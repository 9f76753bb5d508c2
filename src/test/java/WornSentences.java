/** Promises 21 to 23: what a worn BOARD may have been, how long it lasts, how it is mended. */
final class WornSentences {
    private static final int NONE = TurnedBoards.NONE;
    private static final int[] FAR = {-1, Integer.MIN_VALUE, Integer.MAX_VALUE};

    private WornSentences() {
    }

    static void test(Sentences s) {
        s.holds(21, "A BOARD may HAVE BEEN the WORDS as long as it is, all of whose letters, in its HAND, have each stroke "
                + "that is there in their place.", WornSentences::mayHaveBeen);
        s.holds(21, "WORDS that a BOARD may HAVE BEEN, as bits; NONE when there is none such.", WornSentences::been);
        s.holds(22, "A BOARD LASTS as many of them, from the first one on, as it says, seen 0, in each place (now, too) the "
                + "letter of the WORD that it was painted with last.", WornSentences::lastsInEachPlace);
        s.holds(22, "How many YEARS AHEAD (60 at most) a BOARD LASTS; NONE when it does not say so now, or there is none "
                + "such.", WornSentences::lasts);
        s.holds(23, "To MEND a place for a letter is to paint strokes that it has, in the order of bits, till it READS as "
                + "that letter (seen 0): the fewest of these.", WornSentences::mending);
        s.holds(23, "To MEND a place of a BOARD for the k-th letter of its HAND: how many strokes; NONE when all are not "
                + "enough, or there are none such.", WornSentences::mend);
    }

    private static void due(String what, long got, long want) {
        Bench.due(what, got, want);
    }

    private static void scrape(TurnedBoards x, int board, int place) {
        for (int bit = 0; bit < 15; bit++) {
            x.stroke(board, place, bit, 0);
        }
    }

    private static void mayHaveBeen() {
        String text = Bench.letter('a', 0, 7) + Bench.letter('b', 0, 15) + Bench.letter('c', 0, 6) + Bench.letter('a', 1, 1)
                + "word a;word b;word c;word ab;word ba;board a hand 0;board ba hand 0;board a hand 1;";
        TurnedBoards x = Bench.shopOf(text);
        due("a or b", x.been(0), 1 + 2);
        due("ba alone", x.been(1), 16);
        due("hand 1 has no other letter", x.been(2), 1);
        x.stroke(1, 0, 3, 0);
        due("ba or ab", x.been(1), 8 + 16);
        x.stroke(1, 1, 3, 1);
        due("ab alone", x.been(1), 8);
        x.stroke(1, 1, 4, 1);
        due("a stroke that none has", x.been(1), 0);
        x.stroke(0, 0, 0, 0);
        due("a, b or c", x.been(0), 1 + 2 + 4);
        scrape(x, 2, 0);
        due("in hand 1 a alone, though nothing is there", x.been(2), 1);
        // no doubt, no forgiving: the strokes alone
        TurnedBoards y = Bench.shopOf(text + "forgive 99;");
        due("a or b", y.been(0), 1 + 2);
        y.paint(0, 4, 0);
        due("as long as it is now", y.been(0), 16);
    }

    private static void been() {
        StringBuilder text = new StringBuilder();
        for (char name = 'a'; name <= 'h'; name++) {
            text.append(Bench.letter(name, 0, 1 << name - 'a'));
        }
        for (char name = 'a'; name <= 'h'; name++) {
            text.append("word ").append(name).append(';');
        }
        TurnedBoards x = Bench.shopOf(text + "board h hand 0;");
        due("the eighth alone", x.been(0), 128);
        x.stroke(0, 0, 7, 0);
        due("all eight", x.been(0), 255);
        x.stroke(0, 0, 8, 1);
        due("none", x.been(0), 0);
        due("board 1", x.been(1), NONE);
        due("no boards", Bench.shopOf(text.toString()).been(0), NONE);
        for (int n : FAR) {
            due("board " + n, x.been(n), NONE);
        }
    }

    private static void lastsInEachPlace() {
        String text = Bench.letter('a', 0, 32767) + Bench.letter('b', 0, 32760)
                + "word aaaaaa;word bbbbbb;board aaaaaa hand 0;forgive 0;";
        for (int place = 0; place <= 6; place++) {
            TurnedBoards x = Bench.shopOf(text + "rain row=0 and place=" + place + " and year=7;");
            due("till place " + place + " says another letter", x.lasts(0), place < 6 ? 7 : 60);
        }
        // what it says is a WORD, but not the one that it was painted with last
        TurnedBoards x = Bench.shopOf(text + "rain row=0;");
        due("not one year", x.lasts(0), 0);
        x.years(1);
        due("it says b", x.says(0, 0, 0, 0), 2);
        due("that is not its word", x.lasts(0), NONE);
        x.paint(0, 1, 0);
        due("painted with it, it is", x.lasts(0), 60);
        due("undone, it is not", x.undo() ? x.lasts(0) : 0, NONE);
        // from the first one on: what comes back does not count, since nothing does
        TurnedBoards y = Bench.shopOf(text + "rain year=0 and row=0 or year=3;");
        due("none", y.lasts(0), 0);
        // a stroke in one place is enough
        TurnedBoards z = Bench.shopOf(text);
        z.stroke(0, 5, 14, 0);
        due("not now", z.lasts(0), NONE);
        z.stroke(0, 5, 14, 1);
        due("now", z.lasts(0), 60);
    }

    private static void lasts() {
        String text = Bench.letter('a', 0, 32767) + "word a;board a hand 0;forgive 0;";
        for (int year : new int[] {0, 1, 58, 59, 60, 61}) {
            due("rain in year " + year, Bench.shopOf(text + "rain year=" + year + ";").lasts(0), Math.min(60, year));
        }
        // a stroke of two is forgiven a letter of three: it is lost in year 0, and the other in year 1
        String row = Bench.letter('a', 0, 7) + "word a;board a hand 0;rain column=year;";
        due("one year", Bench.shopOf(row).lasts(0), 1);
        due("two years", Bench.shopOf(row + "forgive 4;").lasts(0), 2);
        due("for ever", Bench.shopOf(row + "forgive 6;").lasts(0), 60);
        TurnedBoards x = Bench.shopOf(text + "rain year=998;");
        Bench.pass(x, 938);
        due("60 from year 938", x.lasts(0), 60);
        x.years(1);
        due("59 from year 939", x.lasts(0), 59);
        Bench.pass(x, 59);
        due("none from year 998", x.lasts(0), 0);
        x.years(1);
        due("none in year 999", x.lasts(0), NONE);
        x.paint(0, 0, 0);
        due("painted in year 999", x.lasts(0), 0);
        due("board 1", x.lasts(1), NONE);
        for (int n : FAR) {
            due("board " + n, x.lasts(n), NONE);
        }
    }

    private static void mending() {
        String text = Bench.letter('a', 0, 32767) + "word a;board a hand 0;forgive 0;";
        TurnedBoards x = Bench.shopOf(text);
        due("it reads so now", x.mend(0, 0, 0), 0);
        x.stroke(0, 0, 7, 0);
        due("one stroke", x.mend(0, 0, 0), 1);
        scrape(x, 0, 0);
        due("all of them", x.mend(0, 0, 0), 15);
        // 2 are forgiven: the last stroke need not be painted
        TurnedBoards y = Bench.shopOf(text + "forgive 2;");
        scrape(y, 0, 0);
        due("all but the last", y.mend(0, 0, 0), 14);
        due("nothing is painted", y.glyph(0, 0), 0);
        // in the order of bits: bit 14 alone would do, but those ahead of it are painted first
        String order = Bench.letter('a', 0, 7 | 1 << 14) + Bench.letter('b', 0, 1 << 14)
                + "word a;word b;board b hand 0;forgive 0;doubt less+more*0;";
        TurnedBoards z = Bench.shopOf(order);
        due("b now", z.mend(0, 0, 1), 0);
        due("a", z.mend(0, 0, 0), 3);
        z.stroke(0, 0, 14, 0);
        due("a from nothing", z.mend(0, 0, 0), 4);
        due("b from nothing", z.mend(0, 0, 1), 1);
        // strokes that are there already are not painted
        z.stroke(0, 0, 1, 1);
        due("a from one of its own", z.mend(0, 0, 0), 3);
        // it must read as that letter, and not as one told ahead of it
        String alike = Bench.letter('a', 0, 1) + Bench.letter('b', 0, 3) + "word a;board a hand 0;doubt less;forgive 0;";
        due("b reads as a for ever", Bench.shopOf(alike).mend(0, 0, 1), NONE);
    }

    private static void mend() {
        StringBuilder text = new StringBuilder();
        for (char name = 'a'; name <= 'l'; name++) {
            text.append(Bench.letter(name, 0, 1 << name - 'a'));
        }
        text.append(Bench.letter('a', 1, 3)).append("word aaaaaa;board aaaaaa hand 0;board aaaaaa hand 1;forgive 0;");
        TurnedBoards x = Bench.shopOf(text.toString());
        due("a", x.mend(0, 0, 0), 0);
        due("the last place", x.mend(0, 5, 0), 0);
        due("the last letter: one stroke too many", x.mend(0, 0, 11), NONE);
        scrape(x, 0, 0);
        due("the last letter from nothing", x.mend(0, 0, 11), 1);
        due("no letter 12", x.mend(0, 0, 12), NONE);
        due("hand 1 has one letter", x.mend(1, 0, 0), 0);
        due("hand 1 has one letter", x.mend(1, 0, 1), NONE);
        x.stroke(1, 0, 5, 1);
        due("all are not enough", x.mend(1, 0, 0), NONE);
        due("no place 6", x.mend(0, 6, 0), NONE);
        due("no board 2", x.mend(2, 0, 0), NONE);
        for (int n : FAR) {
            due("board " + n, x.mend(n, 0, 0), NONE);
            due("place " + n, x.mend(0, n, 0), NONE);
            due("letter " + n, x.mend(0, 0, n), NONE);
        }
    }
}
