import java.io.IOException;
import java.lang.reflect.Method;
import java.net.URL;
import java.net.URLClassLoader;
import java.nio.file.Files;
import java.nio.file.Path;
import java.util.regex.Matcher;
import java.util.regex.Pattern;
import javax.tools.ToolProvider;

/** What README.md says of the class: its lines of Java are compiled and run. Run from the project's root. */
public final class ReadmeTest {
    private static final int NONE = TurnedBoards.NONE;
    private static final Pattern BLOCK = Pattern.compile("```java\n(.*?)```", Pattern.DOTALL);
    /** A call whose answer stands behind it. */
    private static final Pattern ANSWERED = Pattern.compile("(x\\.(\\w+)\\(.*\\)); *// (true|false|-?\\d+)\\b.*");

    private ReadmeTest() {
    }

    public static void main(String[] args) throws Exception {
        String readme = Files.readString(Path.of("README.md"));
        int answers = runLines(readme);
        Bench.due("many lines tell an answer, " + answers, answers > 30, true);
        table();
        namesOfTests(readme);
        Bench.finish();
    }

    private static int runLines(String readme) throws Exception {
        StringBuilder helpers = new StringBuilder();
        StringBuilder lines = new StringBuilder();
        int answers = 0;
        Matcher blocks = BLOCK.matcher(readme);
        while (blocks.find()) {
            String block = blocks.group(1);
            if (block.contains("static ")) {
                helpers.append(block);
                continue;
            }
            for (String line : block.split("\n")) {
                Matcher m = ANSWERED.matcher(line);
                if (m.matches()) {
                    answers++;
                    String due = m.group(3) + (m.group(3).length() > 10 ? "L" : "");
                    lines.append("say(\"").append(m.group(1)).append("\", ").append(m.group(1)).append(", ").append(due)
                            .append(");\n");
                } else {
                    Bench.due("a call without its answer: " + line, line.startsWith("x."), false);
                    lines.append(line).append('\n');
                }
            }
        }
        compileAndRun("public class Readme {\nstatic java.util.function.BiConsumer<String, long[]> due;\n"
                + "static void say(String call, long got, long want) { due.accept(call, new long[] {got, want}); }\n"
                + "static void say(String call, boolean got, boolean want) { say(call, got ? 1 : 0, want ? 1 : 0); }\n"
                + helpers + "public static void run(java.util.function.BiConsumer<String, long[]> to) {\ndue = to;\n" + lines
                + "}\n}\n");
        return answers;
    }

    private static void compileAndRun(String source) throws Exception {
        Path folder = Files.createTempDirectory("readme");
        Path file = folder.resolve("Readme.java");
        Files.writeString(file, source);
        String path = System.getProperty("java.class.path");
        int failed = ToolProvider.getSystemJavaCompiler()
                .run(null, null, null, "-cp", path, "-d", folder.toString(), file.toString());
        Bench.due("README's lines of Java are compiled", failed, 0);
        if (failed == 0) {
            try (URLClassLoader loader = new URLClassLoader(new URL[] {folder.toUri().toURL()})) {
                Method run = loader.loadClass("Readme").getMethod("run", java.util.function.BiConsumer.class);
                java.util.function.BiConsumer<String, long[]> due = (call, n) -> Bench.due("README: " + call, n[0], n[1]);
                run.invoke(null, due);
            }
        }
        removeAll(folder);
    }

    private static void removeAll(Path folder) throws IOException {
        try (var files = Files.list(folder)) {
            for (Path file : files.toList()) {
                Files.delete(file);
            }
        }
        Files.delete(folder);
    }

    /** The rows of the table of what can not be, each on an object of its own. */
    private static void table() {
        String text = "letter a hand 0 is 7 7 7 7 7;word a;board a hand 0;rain all;hail 100;";
        TurnedBoards x = Bench.shopOf(text);
        for (int i = 0; i < 80; i++) {
            x.feed(0, 0, 0, 0, 0);
        }
        refused("feed", x, x.feed(0, 0, 0, 0, 0), NONE, 0);
        x = Bench.shopOf(text);
        refused("end", x, x.end(1) ? 1 : 0, 0, 0);
        x = Bench.shopOf(text);
        refused("shop", x, Bench.shop(x, "hail 101;"), NONE, 1);
        Bench.due("kind", x.fault(0), 2);
        Bench.due("place", x.fault(1), 5);
        Bench.due("the tape is empty", x.end(1), false);
        x = Bench.shopOf(text);
        refused("stroke, so already", x, x.stroke(0, 0, 0, 1) ? 1 : 0, 0, 2);
        x = Bench.shopOf(text);
        refused("stroke, no such thing", x, x.stroke(1, 0, 0, 1) ? 1 : 0, 0, 2);
        x = Bench.shopOf(text);
        refused("paint, no such thing", x, x.paint(0, 1, 0) ? 1 : 0, 0, 2);
        Bench.due("paint, so already", x.paint(0, 0, 0), true);
        for (int n : new int[] {0, 101}) {
            x = Bench.shopOf(text);
            refused("years", x, x.years(n), NONE, 3);
            x = Bench.shopOf(text);
            refused("chance", x, x.chance(n), NONE, 3);
        }
        x = Bench.shopOf(text);
        refused("undo", x, x.undo() ? 1 : 0, 0, 4);
        x = Bench.shopOf(text);
        refused("seed", x, x.seed(-1) ? 1 : 0, 0, 5);
        x = Bench.shopOf(text);
        refused("on", x, x.on() ? 1 : 0, 0, 5);
        x = Bench.shopOf(text);
        refused("ask", x, Bench.ask(x, "total"), TurnedBoards.NOTHING, NONE);
        Bench.due("kind", x.fault(0), 1);
        Bench.due("place", x.fault(1), 5);
        looks();
    }

    /** It answered so, was counted there alone, and all else is as it was. */
    private static void refused(String call, TurnedBoards x, long got, long want, int counted) {
        Bench.due("refused " + call, got, want);
        for (int what = 0; what <= 5; what++) {
            Bench.due("status(" + what + ") of " + call, x.status(what), what == counted ? 1 : 0);
        }
        int[] has = {1, 0, 1, 1, 0, 15, 0, 0};
        for (int what = 0; what <= 7; what++) {
            Bench.due("has(" + what + ") behind " + call, x.has(what), has[what]);
        }
    }

    private static void looks() {
        TurnedBoards x = new TurnedBoards();
        int[] answers = {x.fault(2), x.has(8), x.letter(0, 0, 0), x.word(0, 0), x.board(0, 0), x.glyph(0, 0), x.kept(0, 0),
            x.seen(-1, 0), x.reads(2, 0, 0), x.says(0, 0, 0, 0), x.becomes(0, 0, 0), x.line(0, 0, 0, 0),
            x.piece(0, 0, 0, 0, 0), x.best(0), x.hand(0, 0), x.been(0), x.lasts(0), x.mend(0, 0, 0), x.octet(0), x.status(6)};
        for (int answer : answers) {
            Bench.due("a look at what there is not", answer, NONE);
        }
        Bench.due("a look at what there is not", x.doubt(0, 0, 0), TurnedBoards.NOTHING);
        for (int what = 0; what <= 5; what++) {
            Bench.due("not counted", x.status(what), 0);
        }
    }

    /** Every test of the project is told of, and none that is not there. */
    private static void namesOfTests(String readme) throws IOException {
        try (var files = Files.list(Path.of("src/test/java"))) {
            for (Path file : files.toList()) {
                String name = file.getFileName().toString().replace(".java", "");
                if (name.endsWith("Test")) {
                    Bench.due("README tells of " + name, readme.contains("- `" + name), true);
                }
            }
        }
        Matcher told = Pattern.compile("- `(\\w+)").matcher(readme);
        while (told.find()) {
            Bench.due(told.group(1) + " is there", Files.exists(Path.of("src/test/java/" + told.group(1) + ".java")), true);
        }
    }
}
