/** Promise 5: the FAULTS of a SHOP, each at its place. */
final class FaultSentences {
    private static final String FULL = "letter a hand 0 is 7 7 7 7 7;";

    private FaultSentences() {
    }

    static void test(Sentences s) {
        s.holds(5, "FAULTS, the first along the text", FaultSentences::firstAlongTheText);
        s.holds(5, "1 the first byte with which no such text goes on (words and numbers whole, at their first byte",
                FaultSentences::wordsAndNumbersWhole);
        s.holds(5, "1 the first byte with which no such text goes on", FaultSentences::cutShort);
        s.holds(5, "where a NAME is asked, an OWN WORD so", FaultSentences::ownWordAsName);
        s.holds(5, "a 7th letter at itself", FaultSentences::seventhLetter);
        s.holds(5, "of a letter's NAME the 2nd", FaultSentences::secondLetter);
        s.holds(5, "where a number is asked, a 5th digit at itself", FaultSentences::fifthDigit);
        s.holds(5, "at the text's length, if it ends too soon", FaultSentences::endsTooSoon);
        s.holds(5, "2 a number that can't be (of a letter told of this HAND already, of a BOARD that can't be painted by "
                + "it the HAND), at it", FaultSentences::numbersThatCantBe);
        s.holds(5, "3 a NAME that is there already, that has a letter which is not told, that is no WORD, at it",
                FaultSentences::names);
        s.holds(5, "4 the 7th of ( [ not that is open at once (not until its FACT ends), at it", FaultSentences::depth);
        s.holds(5, "5 one too many of a kind (a second doubt, rain, a 13th letter of a HAND, that at its HAND, ahead of "
                + "one told already)", FaultSentences::tooMany);
        s.holds(5, "a 61st STATEMENT (whatever stands there), at its first byte.", FaultSentences::statement61);
    }

    private static void told(String text, int statements) {
        Bench.due("shop() of " + text, Bench.shop(new TurnedBoards(), text), statements);
    }

    private static String twelve(int hand) {
        StringBuilder text = new StringBuilder();
        for (char name = 'a'; name <= 'l'; name++) {
            text.append(Bench.letter(name, hand, 1));
        }
        return text.toString();
    }

    private static void firstAlongTheText() {
        Bench.faulty("hail 101;x", 2, 5);
        Bench.faulty("x;hail 101;", 1, 0);
        Bench.faulty("letter a hand 2 is 9", 2, 14);
        Bench.faulty("letter ab hand 2 is 9", 1, 8);
        Bench.faulty("letter a hand 0 is 8 8", 2, 19);
        Bench.faulty("word b x", 3, 5);
        Bench.faulty("word 1b", 1, 5);
        Bench.faulty("rain [[[[[[[row=99999]]]]]]]", 4, 11);
        Bench.faulty("rain [[[[[[row=99999", 1, 19);
        Bench.faulty("doubt 1;doubt ((((((((1", 5, 8);
        Bench.faulty("hail 1x 101;", 1, 6);
        Bench.faulty("hail 101x;", 2, 5);
    }

    private static void wordsAndNumbersWhole() {
        Bench.faulty("x", 1, 0);
        Bench.faulty("lette", 1, 0);
        Bench.faulty("letters a hand 0 is 1 1 1 1 1;", 1, 0);
        Bench.faulty("12345", 1, 0);
        Bench.faulty("hail forgive;", 1, 5);
        Bench.faulty("hail 1 forgive;", 1, 7);
        Bench.faulty("hail 1 99999;", 1, 7);
        Bench.faulty("letter a han 0 is 1 1 1 1 1;", 1, 9);
        Bench.faulty("letter a 12345 0 is 1 1 1 1 1;", 1, 9);
        Bench.faulty("letter a hand 0 i 1 1 1 1 1;", 1, 16);
        Bench.faulty("letter a hand 0 isis 1 1 1 1 1;", 1, 16);
        Bench.faulty("doubt mores;", 1, 6);
        Bench.faulty("doubt morelessink;", 1, 6);
        Bench.faulty("doubt more row;", 1, 11);
        Bench.faulty("doubt row;", 1, 6);
        Bench.faulty("doubt number;", 1, 6);
        Bench.faulty("doubt all;", 1, 6);
        Bench.faulty("doubt not 1;", 1, 6);
        Bench.faulty("doubt [1];", 1, 6);
        Bench.faulty("doubt 1<2;", 1, 7);
        Bench.faulty("rain more=1;", 1, 5);
        Bench.faulty("rain line 0=1;", 1, 5);
        Bench.faulty("rain at 0=1;", 1, 5);
        Bench.faulty("rain alls;", 1, 5);
        Bench.faulty("rain all nor all;", 1, 9);
        Bench.faulty("rain row;", 1, 8);
        Bench.faulty("rain row=1=1;", 1, 10);
        Bench.faulty("rain row==1;", 1, 9);
        Bench.faulty("rain row<=1;", 1, 9);
        Bench.faulty("rain -1=row;", 1, 5);
        Bench.faulty("rain (all);", 1, 6);
        Bench.faulty("rain [row=1);", 1, 11);
        Bench.faulty("rain (row]=1;", 1, 9);
        Bench.faulty("rain min(1)=1;", 1, 10);
        Bench.faulty("rain min(1,2,3)=1;", 1, 12);
        Bench.faulty("rain min 1,2=1;", 1, 9);
    }

    /** Statements that end too soon by their ; where something else is asked. */
    private static void cutShort() {
        String word = FULL + "word a;";
        for (String text : new String[] {"letter", "letter a", "letter a hand", "letter a hand 0", "letter a hand 0 is",
            "letter a hand 0 is 1", "letter a hand 0 is 1 2", "letter a hand 0 is 1 2 3", "letter a hand 0 is 1 2 3 4",
            "word", "board", "board a", "board a hand", "forgive", "blank", "hail", "doubt", "doubt 1+", "doubt 1-",
            "doubt 1*", "doubt 1/", "doubt (", "doubt (1", "doubt (1+", "doubt min", "doubt min(", "doubt min(1",
            "doubt min(1,", "doubt min(1,1", "doubt max", "rain", "rain not", "rain [", "rain [all", "rain [all or",
            "rain all and", "rain all or", "rain not all and", "rain row", "rain row=", "rain row<", "rain row>",
            "rain 1=2+", "rain 1=2*", "rain 1=(2"}) {
            boolean letter = text.startsWith("letter");
            Bench.faultyBehind(letter ? "" : word, text + ";", 1, text.length());
            Bench.faultyBehind(letter ? "" : word, text, 1, text.length());
        }
    }

    private static void ownWordAsName() {
        Bench.faulty("letter hand hand 0 is 1 1 1 1 1;", 1, 7);
        Bench.faulty("letter at hand 0 is 1 1 1 1 1;", 1, 7);
        Bench.faulty("letter forgive hand 0 is 1 1 1 1 1;", 1, 7);
        Bench.faultyBehind(FULL, "word number;", 1, 5);
        Bench.faultyBehind(FULL, "word forgive;", 1, 5);
        Bench.faultyBehind(FULL, "word forgives;", 1, 11);
        Bench.faultyBehind(FULL + "word a;", "board is hand 0;", 1, 6);
    }

    private static void seventhLetter() {
        told(FULL + "word aaaaaa;", 2);
        Bench.faultyBehind(FULL, "word aaaaaaa;", 1, 11);
        Bench.faultyBehind(FULL, "word aaaaaaaaaaaa;", 1, 11);
        Bench.faultyBehind(FULL, "word abcdefg;", 1, 11);
        Bench.faultyBehind(FULL + "word aaaaaa;", "board aaaaaaa hand 0;", 1, 12);
        told(FULL + "word aaaaaa;board aaaaaa hand 0;", 3);
        Bench.faultyBehind(FULL + "word aaaaaa;", "board aaaaa hand 0;", 3, 6);
    }

    private static void secondLetter() {
        told(FULL, 1);
        Bench.faulty("letter aa hand 0 is 1 1 1 1 1;", 1, 8);
        Bench.faulty("letter abcdefgh hand 0 is 1 1 1 1 1;", 1, 8);
        Bench.faulty("letter \n ab", 1, 10);
    }

    private static void fifthDigit() {
        told("hail 0001;", 1);
        told("hail 0100;", 1);
        Bench.faulty("hail 00001;", 1, 9);
        Bench.faulty("hail 12345;", 1, 9);
        Bench.faulty("hail 1234;", 2, 5);
        Bench.faulty("letter a hand 00000 is 1 1 1 1 1;", 1, 18);
        Bench.faulty("letter a hand 0 is 1 1 1 1 00001;", 1, 31);
        Bench.faultyBehind(FULL + "word a;", "board a hand 00000;", 1, 17);
        told("doubt 9999;", 1);
        Bench.faulty("doubt 10000;", 1, 10);
        Bench.faulty("doubt 123456789012345678901234567890;", 1, 10);
        Bench.faulty("rain 1=10000;", 1, 11);
        // where none is asked, it stands whole
        Bench.faulty("hail 1 12345;", 1, 7);
    }

    private static void endsTooSoon() {
        String[] tokens = ("letter a hand 0 is 1 2 3 4 5 ; word aaa ; board aaa hand 0 ; forgive 9 ; blank 99 ; hail 100 ; "
                + "doubt min ( more , less + 1 ) * ( ink / 2 - 1 ) ; rain not [ row = 0 and near < 2 or all ] ;")
                .split(" ");
        StringBuilder text = new StringBuilder();
        int statements = 0;
        for (String token : tokens) {
            text.append(token);
            if (token.equals(";")) {
                statements++;
                told(text.toString(), statements);
            } else {
                Bench.faulty(text.toString(), 1, text.length());
                Bench.faulty(text + " \n ", 1, text.length() + 3);
            }
            text.append(' ');
        }
        Bench.due("all told", statements, 8);
    }

    private static void numbersThatCantBe() {
        String text = FULL + "letter b hand 0 is 1 1 1 1 1;letter a hand 1 is 1 1 1 1 1;word a;word ba;";
        Bench.faultyBehind(text, "letter a hand 0 is 1 1 1 1 1;", 2, 14);
        Bench.faultyBehind(text, "letter a hand 1 is 1 1 1 1 1;", 2, 14);
        Bench.faultyBehind(text, "letter c hand 2 is 1 1 1 1 1;", 2, 14);
        told(text + "letter b hand 1 is 1 1 1 1 1;", 6);
        told(text + "board a hand 1;board ba hand 0;", 7);
        Bench.faultyBehind(text, "board ba hand 1;", 2, 14);
        Bench.faultyBehind(text, "board a hand 2;", 2, 13);
        Bench.faulty("forgive  100 ;", 2, 9);
        Bench.faulty("blank 9999", 2, 6);
        Bench.faulty("hail 101", 2, 5);
        told("forgive 99;blank 99;hail 100;", 3);
        Bench.faulty("letter a hand 0 is 7 7 7 7 8;", 2, 27);
    }

    private static void names() {
        String text = FULL + "letter b hand 1 is 1 1 1 1 1;word a;word aa;";
        Bench.faultyBehind(text, "word a;", 3, 5);
        Bench.faultyBehind(text, "word aa;", 3, 5);
        told(text + "word aaa;", 5);
        Bench.faultyBehind(text, "word b;", 3, 5);
        Bench.faultyBehind(text, "word az;", 3, 5);
        Bench.faultyBehind(text, "word  za", 3, 6);
        Bench.faultyBehind(text, "board b hand 0;", 3, 6);
        Bench.faultyBehind(text, "board aaa hand 0;", 3, 6);
        told(text + "board aa hand 0;", 5);
    }

    private static void depth() {
        told("doubt ((((((1))))));", 1);
        Bench.faulty("doubt (((((((1)))))));", 4, 12);
        Bench.faulty("doubt ((((((((1))))))));", 4, 12);
        told("rain [[[[[[all]]]]]];", 1);
        Bench.faulty("rain [[[[[[[all]]]]]]];", 4, 11);
        told("rain not not not not not not all;", 1);
        Bench.faulty("rain not not not not not not not all;", 4, 29);
        told("rain [not [not [not all]]];", 1);
        Bench.faulty("rain [not [not [not [all]]]];", 4, 20);
        Bench.faulty("rain [not [not [not not all]]];", 4, 20);
        told("rain [not [not [(1)=1]]];", 1);
        Bench.faulty("rain [not [not [((1))=1]]];", 4, 17);
        String five = "doubt " + "min(1,".repeat(5);
        told(five + "max(1,1)" + ")".repeat(5) + ";", 1);
        Bench.faulty(five + "max(1,(1))" + ")".repeat(5) + ";", 4, 42);
        Bench.faulty(five + "max(1,max(1,1))" + ")".repeat(5) + ";", 4, 45);
        // what is closed is not open
        told("doubt ((((((1))))))+((((((1))))))*min((((((1))))),1);", 1);
        told("rain [[[[[[all]]]]]] and [[[[[[all]]]]]] or not not not not not not all;", 1);
        told("rain not not not not not not all and not not not not not not all;", 1);
        told("rain not not not not not not 1=1 or not not not not not not 1=1;", 1);
        told("rain [not all and not all and not all and not all and not all and not all and not all];", 1);
        // behind others that are good
        Bench.faulty("doubt 1+(((((((1", 4, 14);
        Bench.faulty("doubt 1-(((((((1", 4, 14);
        Bench.faulty("doubt 1*(((((((1", 4, 14);
        Bench.faulty("doubt 1/(((((((1", 4, 14);
        Bench.faulty("doubt min(1,(((((((1", 4, 17);
        Bench.faulty("rain all and [[[[[[[all", 4, 19);
        Bench.faulty("rain all or [[[[[[[all", 4, 18);
        Bench.faulty("rain 1<(((((((1", 4, 13);
        Bench.faulty("rain [all and [[[[[[all", 4, 19);
        // not is open until its fact ends, both sums of it included
        told("rain not not not not not (1)=(1);", 1);
        Bench.faulty("rain not not not not not not (1)=1;", 4, 29);
        Bench.faulty("rain not not not not not not 1=(1);", 4, 31);
        told("rain not not not not not not 1=1 and (1)=1;", 1);
    }

    private static void tooMany() {
        Bench.faulty("doubt more; doubt more;", 5, 12);
        Bench.faulty("rain all; rain all;", 5, 10);
        Bench.faultyBehind(twelve(0), Bench.letter('m', 0, 1), 5, 14);
        Bench.faultyBehind(twelve(0), Bench.letter('a', 0, 1), 5, 14);
        Bench.faultyBehind(twelve(1), Bench.letter('a', 1, 1), 5, 14);
        Bench.faultyBehind(twelve(0), "letter m hand 2 is 1 1 1 1 1;", 2, 14);
        Bench.faultyBehind(twelve(0), "letter mn hand 0 is 1 1 1 1 1;", 1, 8);
        Bench.faultyBehind(twelve(0), "letter m hand  0", 5, 15);
        Bench.faultyBehind(twelve(0), "letter m", 1, 8);
        told(twelve(0) + twelve(1), 24);
        String eleven = twelve(0).substring(0, twelve(0).length() - Bench.letter('l', 0, 1).length());
        Bench.faultyBehind(eleven, Bench.letter('a', 0, 1), 2, 14);
        String words = FULL + "letter b hand 0 is 1 1 1 1 1;word a;word b;word aa;word ab;word ba;word bb;word aaa;";
        told(words + "word bbb;", 10);
        Bench.faultyBehind(words + "word bbb;", "word a;", 5, 0);
        Bench.faultyBehind(words + "word bbb;", "word 9;", 5, 0);
        told(words + "board a hand 0;board a hand 0;board a hand 0;board b hand 0;", 13);
        Bench.faultyBehind(words + "board a hand 0;board a hand 0;board a hand 0;board b hand 0;", " board z", 5, 1);
    }

    private static void statement61() {
        String sixty = "hail 1;".repeat(60);
        told(sixty, 60);
        for (String more : new String[] {"hail 1;", "x", ";", "12345", "\u00ff", "letter", "doubt", "(", "a b c"}) {
            Bench.faultyBehind(sixty, more, 5, 0);
            Bench.faultyBehind(sixty, " \n" + more, 5, 2);
        }
        Bench.faultyBehind("hail 1;".repeat(59), "x", 1, 0);
        Bench.faultyBehind("hail 1;".repeat(59), "hail 1", 1, 6);
        Bench.faultyBehind("hail 1;".repeat(59), "hail 101;x", 2, 5);
    }
}
