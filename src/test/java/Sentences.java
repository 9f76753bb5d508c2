import java.io.IOException;
import java.nio.file.Files;
import java.nio.file.Path;
import java.util.regex.Matcher;
import java.util.regex.Pattern;

/**
 * The sentences of the document, each with the test that is its own. It looks whether the document says so, and at
 * the end whether any word of the document, from its first term on, was left without a test.
 */
final class Sentences {
    private static final int PROMISES = 34;
    private final String document;
    private final boolean[] tested;
    private final int[] testsOf = new int[PROMISES + 1];
    private int tests;

    Sentences(Path file) throws IOException {
        document = Files.readString(file);
        tested = new boolean[document.length()];
    }

    /** Runs the test of a sentence, which is looked for under its promise first. */
    void holds(int promise, String sentence, Runnable test) {
        tests++;
        testsOf[promise]++;
        int at = find(promise, sentence);
        Bench.due("the document says \"" + sentence + "\"", at >= 0, true);
        for (int i = 0; at >= 0 && i < sentence.length(); i++) {
            tested[at + i] = true;
        }
        int before = Bench.wrongSoFar();
        test.run();
        if (Bench.wrongSoFar() != before) {
            System.out.println("so this does not hold: promise " + promise + ", \"" + sentence + "\"");
        }
    }

    private int find(int promise, String sentence) {
        int from = document.indexOf("## Promise " + promise + ":");
        int to = document.indexOf("\n## ", from);
        int at = document.indexOf(sentence, from);
        if (at >= 0 && at + sentence.length() <= to) {
            return at;
        }
        at = document.indexOf(sentence, document.indexOf("## Terms"));
        return at >= 0 ? at : document.indexOf(sentence);
    }

    /** Every promise has a test, and every word from the first term on lies in a sentence that has one. */
    void nothingIsLeft() {
        for (int promise = 1; promise <= PROMISES; promise++) {
            Bench.due("promise " + promise + " has a test", testsOf[promise] > 0, true);
        }
        int to = document.indexOf("## Not promised");
        Matcher m = Pattern.compile("\\w+").matcher(document).region(document.indexOf("I. A SHOP"), to);
        while (m.find()) {
            if (!tested[m.start()] && !isFrame(m.start())) {
                int line = document.lastIndexOf('\n', m.start()) + 1;
                String near = document.substring(Math.max(line, m.start() - 40), Math.min(to, m.end() + 40));
                Bench.due("tests of \"" + m.group() + "\" in \"" + near.replace('\n', ' ') + "\"", 0, 1);
            }
        }
        System.out.println(tests + " sentences tested");
    }

    /** Headings, fences, numerals of the terms, and the signatures, which LanguageTest compares. */
    private boolean isFrame(int at) {
        int from = document.lastIndexOf('\n', at) + 1;
        int end = document.indexOf('\n', at);
        String line = document.substring(from, end);
        Matcher frame = Pattern.compile("## .*|```.*|The constants:|Ahead of the calls .*|[IV]+\\.|`[^`]*`:").matcher(line);
        return frame.lookingAt() && at < from + frame.end();
    }
}
