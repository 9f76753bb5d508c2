/** Promise 30: QUESTIONS, what they count and their FAULTS. */
final class QuestionSentences {
    private static final int NONE = TurnedBoards.NONE;
    private static final long NOTHING = TurnedBoards.NOTHING;
    /** Eight WORDS of one to six letters, from a to z. */
    private static final String EIGHT = Bench.letter('a', 0, 7) + Bench.letter('z', 0, 0) + Bench.letter('f', 0, 32767)
            + "word a;word z;word az;word aaa;word aazz;word zzzzz;word zzzzzz;word ffffff;";

    private QuestionSentences() {
    }

    static void test(Sentences s) {
        s.holds(30, "first TEST, last TEST (the first, the last WORD for which it holds)", QuestionSentences::firstAndLast);
        s.holds(30, "often TEST (for how many)", QuestionSentences::often);
        s.holds(30, "total SUM (of all together)", QuestionSentences::total);
        s.holds(30, "most SUM, least SUM (the greatest, the least of all; 0 without WORDS)",
                QuestionSentences::mostAndLeast);
        s.holds(30, "(The WORD's number, how many letters; how many strokes in HAND 0;", QuestionSentences::ofTheWord);
        s.holds(30, "how far in doubt its LEAST line for the WORD of that number is in HAND 0;", QuestionSentences::lines);
        s.holds(30, "the letter at that place, 1 .. 26: -1 of those that there are not.)", QuestionSentences::lettersAt);
        s.holds(30, "Its FAULTS: 1 as in I (an unknown word at its first byte; what stands behind it, too)",
                QuestionSentences::textFaults);
        s.holds(30, "4 the 7th of ( [ not line at that is open at once (not until its FACT, line, at until its PART ends), "
                + "at it.", QuestionSentences::depth);
        s.holds(30, "The tape (it goes) is a QUESTION: its answer; NONE of first, last, when its TEST holds for none; NOTHING "
                + "with a FAULT.", QuestionSentences::ask);
    }

    private static void due(String what, long got, long want) {
        Bench.due(what, got, want);
    }

    private static void answer(TurnedBoards x, String question, long want) {
        due(question, Bench.ask(x, question), want);
        due("fault(0) of " + question, x.fault(0), 0);
        due("fault(1) of " + question, x.fault(1), NONE);
    }

    private static void firstAndLast() {
        TurnedBoards x = Bench.shopOf(EIGHT);
        answer(x, "first all", 0);
        answer(x, "last all", 7);
        answer(x, "first number>0", 1);
        answer(x, "last number<7", 6);
        answer(x, "first number=7", 7);
        answer(x, "last number=0", 0);
        answer(x, "first number>7", NONE);
        answer(x, "last number<0", NONE);
        TurnedBoards none = Bench.shopOf(Bench.letter('a', 0, 7));
        answer(none, "first all", NONE);
        answer(none, "last all", NONE);
        TurnedBoards one = Bench.shopOf(Bench.letter('a', 0, 7) + "word a;");
        answer(one, "first all", 0);
        answer(one, "last all", 0);
    }

    private static void often() {
        TurnedBoards x = Bench.shopOf(EIGHT);
        answer(x, "often all", 8);
        answer(x, "often not all", 0);
        answer(x, "often number<7", 7);
        answer(x, "often number=7", 1);
        answer(new TurnedBoards(), "often all", 0);
        answer(new TurnedBoards(), "often not all", 0);
    }

    private static void total() {
        TurnedBoards x = Bench.shopOf(EIGHT);
        answer(x, "total 1", 8);
        answer(x, "total 0", 0);
        answer(x, "total number", 28);
        // the cut is that of each SUM
        answer(x, "total 1000*1000", 8000000);
        answer(x, "total 9999*9999", 8000000);
        answer(x, "total 0-9999*9999", -8000000);
        answer(Bench.shopOf(Bench.letter('a', 0, 7) + "word a;"), "total 999*1001", 999999);
        answer(new TurnedBoards(), "total 5", 0);
    }

    private static void mostAndLeast() {
        TurnedBoards x = Bench.shopOf(EIGHT);
        answer(x, "most number", 7);
        answer(x, "least number", 0);
        answer(x, "most 0-number", 0);
        answer(x, "least 0-number", -7);
        // below 0 all of them: 0 is none of them
        answer(x, "most 0-1-number", -1);
        answer(x, "least 1+number", 1);
        answer(x, "most 9999*9999", 1000000);
        answer(x, "least 0-9999*9999", -1000000);
        answer(x, "most 1-1000*1000*(1-min(1,number))", 1);
        answer(x, "least 1000*1000*(1-min(1,number))", 0);
        for (String what : new String[] {"5", "0-5", "year"}) {
            answer(new TurnedBoards(), "most " + what, 0);
            answer(new TurnedBoards(), "least " + what, 0);
        }
    }

    private static void ofTheWord() {
        TurnedBoards x = Bench.shopOf(EIGHT);
        answer(x, "least long", 1);
        answer(x, "most long", 6);
        answer(x, "often long=6", 2);
        answer(x, "often long<1 or long>6", 0);
        answer(x, "least ink", 0);
        answer(x, "most ink", 90);
        answer(x, "total ink", 3 + 3 + 9 + 6 + 90);
        answer(x, "first ink=0", 1);
        answer(x, "least number", 0);
        answer(x, "most number", 7);
        answer(x, "often number<0 or number>7", 0);
        answer(x, "most year", 0);
        Bench.pass(x, 999);
        answer(x, "least year", 999);
        // the strokes of HAND 0, not of another, and not those of a board
        TurnedBoards y = Bench.shopOf(Bench.letter('a', 0, 7) + Bench.letter('a', 1, 1) + "word a;board a hand 1;");
        answer(y, "total ink", 3);
    }

    private static void lines() {
        TurnedBoards x = Bench.shopOf(EIGHT + "forgive 3;");
        for (int one = 0; one < 8; one++) {
            for (int other = 0; other < 8; other++) {
                answer(x, "total line " + other + "*(1-min(1,(number-" + one + ")*(number-" + one + ")))",
                        x.line(one, other, 0, 0));
            }
        }
        answer(x, "least line 8", -1);
        answer(x, "most line 8", -1);
        answer(x, "most line 9999", -1);
        answer(x, "most line(0-1)", -1);
        answer(x, "most line(0-9999*9999)", -1);
        answer(x, "often line 7<0", 0);
        // of hand 0 alone, even where hand 1 is better
        String hands = Bench.letter('a', 0, 7) + Bench.letter('a', 1, 32767) + "word a;";
        answer(Bench.shopOf(hands), "total line 0", 18);
        due("hand 1 is better", Bench.shopOf(hands).line(0, 0, 1, 0), 0);
    }

    private static void lettersAt() {
        TurnedBoards x = Bench.shopOf(EIGHT);
        answer(x, "first at 0=26", 1);
        answer(x, "least at 0", 1);
        answer(x, "most at 0", 26);
        answer(x, "often at 0=0-1", 0);
        answer(x, "often at 1=0-1", 2);
        answer(x, "often at 5=0-1", 6);
        answer(x, "often at 6=0-1", 8);
        answer(x, "often at 9999=0-1", 8);
        answer(x, "often at(0-1)=0-1", 8);
        answer(x, "often at(long-1)>0", 8);
        answer(x, "often at long=0-1", 8);
        answer(x, "total at(long-1)", 1 + 26 + 26 + 1 + 26 + 26 + 26 + 6);
        answer(x, "often at 5=0", 0);
    }

    private static void textFaults() {
        TurnedBoards x = Bench.shopOf(EIGHT);
        Bench.faultyAsk(x, "", 1, 0);
        Bench.faultyAsk(x, " \n", 1, 2);
        Bench.faultyAsk(x, "often", 1, 5);
        Bench.faultyAsk(x, "often ", 1, 6);
        Bench.faultyAsk(x, "oft all", 1, 0);
        Bench.faultyAsk(x, "oftener all", 1, 0);
        Bench.faultyAsk(x, "1", 1, 0);
        Bench.faultyAsk(x, "all", 1, 0);
        Bench.faultyAsk(x, "letter a hand 0 is 1 1 1 1 1;", 1, 0);
        Bench.faultyAsk(x, " first allx", 1, 7);
        Bench.faultyAsk(x, "total numbers", 1, 6);
        Bench.faultyAsk(x, "total more", 1, 6);
        Bench.faultyAsk(x, "total near", 1, 6);
        Bench.faultyAsk(x, "total a", 1, 6);
        Bench.faultyAsk(x, "total all", 1, 6);
        Bench.faultyAsk(x, "total not 1", 1, 6);
        Bench.faultyAsk(x, "first long", 1, 10);
        Bench.faultyAsk(x, "total 00001", 1, 10);
        Bench.faultyAsk(x, "total line", 1, 10);
        Bench.faultyAsk(x, "total at", 1, 8);
        Bench.faultyAsk(x, "total line -1", 1, 11);
        for (String text : new String[] {"first", "last", "often", "total", "most", "least", "total 1+", "total 1-",
            "total 1*", "total 1/", "total (", "total (1", "total min", "total min(", "total min(1", "total min(1,",
            "total min(1,1", "total line", "total at", "total at line", "total 1+at", "first not", "first [", "first [all",
            "first all and", "first all or", "first 1", "first 1=", "first 1<", "first 1=1 and 1=1 or"}) {
            Bench.faultyAsk(x, text, 1, text.length());
            if (!text.equals("first [all")) {
                Bench.faultyAsk(x, text + "]", 1, text.length());
            }
        }
        // what stands behind it
        Bench.faultyAsk(x, "total 1;", 1, 7);
        Bench.faultyAsk(x, "total 1 ;", 1, 8);
        Bench.faultyAsk(x, "total 1 2", 1, 8);
        Bench.faultyAsk(x, "total 1 12345", 1, 8);
        Bench.faultyAsk(x, "total 1 total 1", 1, 8);
        Bench.faultyAsk(x, "total 1=1", 1, 7);
        Bench.faultyAsk(x, "total 1)", 1, 7);
        Bench.faultyAsk(x, "first all or", 1, 12);
        Bench.faultyAsk(x, "first all all", 1, 10);
        Bench.faultyAsk(x, "first all ]", 1, 10);
        Bench.faultyAsk(x, "total 1\u0000", 1, 7);
        answer(x, "total 1 \n ", 8);
        answer(x, "\n total\n1", 8);
    }

    private static void depth() {
        TurnedBoards x = Bench.shopOf(EIGHT);
        answer(x, "total ((((((1))))))", 8);
        Bench.faultyAsk(x, "total (((((((1)))))))", 4, 12);
        answer(x, "often [[[[[[all]]]]]]", 8);
        Bench.faultyAsk(x, "often [[[[[[[all]]]]]]]", 4, 12);
        answer(x, "often not not not not not not all", 8);
        Bench.faultyAsk(x, "often not not not not not not not all", 4, 30);
        answer(x, "often at at at at at at 9=0-1", 8);
        Bench.faultyAsk(x, "often at at at at at at at 9=0-1", 4, 24);
        answer(x, "often line line line line line line 9=0-1", 8);
        Bench.faultyAsk(x, "often line line line line line line line 9", 4, 36);
        answer(x, "often not[not at(line 9)=0-1]", 8);
        Bench.faultyAsk(x, "often not[not at(line(9))=0-1]", 4, 21);
        Bench.faultyAsk(x, "often not[not at(line at(9))=0-1]", 4, 22);
        answer(x, "often [not at(line at 9)=0-1]", 0);
        Bench.faultyAsk(x, "often [not at(line at at 9)=0-1]", 4, 22);
        answer(x, "total min(max(min(max(min(max(1,1),1),1),1),1),1)", 8);
        Bench.faultyAsk(x, "total min(max(min(max(min(max(min(1,1),1),1),1),1),1),1)", 4, 33);
        // behind others that are good
        Bench.faultyAsk(x, "total 1+(((((((1", 4, 14);
        Bench.faultyAsk(x, "total 1*at at at at at at at 1", 4, 26);
        Bench.faultyAsk(x, "often all and [[[[[[[all", 4, 20);
        Bench.faultyAsk(x, "often all or [[[[[[[all", 4, 19);
        // line and at are open until their PART ends, and no longer
        answer(x, "total at 9+at 9+at 9+at 9+at 9+at 9+at 9", -56);
        answer(x, "total (((((at 9*at 9+line 9)))))", 0);
        answer(x, "total at at at at at 9+((((((1))))))", 0);
        answer(x, "total line line line line line(9)*(9)", -72);
        Bench.faultyAsk(x, "total line line line line line line(9)", 4, 35);
        answer(x, "total line line line line line line 9*((((((9))))))", -72);
        answer(x, "often not not not not not at 9=at 9", 0);
        Bench.faultyAsk(x, "often not not not not not not 1=at 9", 4, 32);
        answer(x, "often not not not not not not 1=1 and at 9=at 9", 8);
    }

    private static void ask() {
        TurnedBoards x = Bench.shopOf(EIGHT);
        due("an answer", Bench.ask(x, "often all"), 8);
        due("the tape is gone", x.end(1) ? 1 : 0, 0);
        due("none of first", Bench.ask(x, "first not all"), NONE);
        due("none of last", Bench.ask(x, "last not all"), NONE);
        due("none is no fault", x.fault(0), 0);
        due("a fault", Bench.ask(x, "first"), NOTHING);
        due("the tape is gone", x.end(1) ? 1 : 0, 0);
        due("it begins anew", x.feed(0, 0, 0, 0, 0), 20);
        due("a fault", x.ask(), NOTHING);
        due("no tape", x.ask(), NOTHING);
        due("not a thing is refused but end()", x.status(0), 2);
        for (int what = 1; what <= 5; what++) {
            due("not a thing is refused", x.status(what), 0);
        }
        // 1600 bytes of it
        String longest = "total " + "1+".repeat(796) + "1 ";
        due("as long as the tape", longest.length(), 1600);
        due("as long as the tape", Bench.ask(x, longest), 8 * 797);
    }
}
