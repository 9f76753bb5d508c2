import java.io.IOException;
import java.lang.reflect.Constructor;
import java.lang.reflect.Executable;
import java.lang.reflect.Field;
import java.lang.reflect.Method;
import java.lang.reflect.Modifier;
import java.nio.file.Files;
import java.nio.file.Path;
import java.util.Arrays;
import java.util.HashSet;
import java.util.Set;
import java.util.TreeSet;
import java.util.regex.Matcher;
import java.util.regex.Pattern;

/** Those of LANGUAGE.md's rules that a look at the file and the class can tell. Run from the project's root. */
public final class LanguageTest {
    private static final Set<String> FACE = new HashSet<>(Arrays.asList(("feed end shop fault has letter word board "
            + "glyph kept seen doubt reads says becomes line piece best hand been lasts mend years chance stroke paint "
            + "undo seed ask image octet on status").split(" ")));

    public static void main(String[] args) throws IOException {
        String source = Files.readString(Path.of("src/main/java/TurnedBoards.java"));
        String code = source.replaceAll("(?s)/\\*.*?\\*/", "").replaceAll("//[^\n]*", "")
                .replaceAll("\"[^\"\n]*\"", "\"\"");
        for (String word : new String[] {"throw", "throws", "try", "catch", "synchronized", "assert", "package",
            "volatile", "HashMap", "Random", "System\\.out", "null", "double", "float"}) {
            Bench.due("uses of " + word, uses(code, "\\b" + word + "\\b"), 0);
        }
        Bench.due("lambdas, references", uses(code, "->|::"), 0);
        Bench.due("Exact", uses(code, "Exact\\b"), 0);
        Bench.due("imports", uses(code, "\\bimport\\b"), uses(code, "import java\\.util\\.(Arrays|ArrayList|List);"));
        Bench.due("signs beyond 127", source.chars().filter(c -> c > 126 || c < 32 && c != 10).count(), 0);
        library(code);
        lengths(code);
        face();
        signatures(Files.readString(Path.of("../shared/DOC.md")));
        Bench.finish();
    }

    private static int uses(String code, String pattern) {
        Matcher m = Pattern.compile(pattern).matcher(code);
        int n = 0;
        while (m.find()) {
            n++;
        }
        return n;
    }

    private static void library(String code) {
        Set<String> may = new HashSet<>(Arrays.asList(("Integer.bitCount Math.min Math.max Math.abs Math.floorDiv Math.floorMod "
                + "Arrays.fill Arrays.copyOf System.arraycopy").split(" ")));
        Matcher m = Pattern.compile("\\b(Integer|Long|Character|Math|Arrays|System|Objects)\\.\\w+").matcher(code);
        while (m.find()) {
            Bench.due(m.group() + " is of the library that may be used", may.contains(m.group()), true);
        }
    }

    /** From the line that opens a method to the brace that closes it at the same depth. */
    private static void lengths(String code) {
        Pattern opening = Pattern.compile("( {4}| {8})(?!if|for|while|switch|\\}|do )\\w.*\\) \\{");
        String[] lines = code.split("\n");
        int methods = 0;
        for (int from = 0; from < lines.length; from++) {
            Matcher m = opening.matcher(lines[from]);
            if (m.matches()) {
                int to = from;
                while (!lines[to].equals(m.group(1) + "}")) {
                    to++;
                }
                methods++;
                Bench.due("some sixty lines at most:" + lines[from], to - from < 60, true);
            }
        }
        Bench.due("many methods are looked at, " + methods, methods > 150, true);
    }

    /** The document's own list of what is public, line by line. */
    private static void signatures(String document) {
        Set<String> want = new TreeSet<>();
        Matcher m = Pattern.compile("    public (?!static)(?:(\\w+) )?(\\w+)\\((.*)\\);").matcher(document);
        while (m.find()) {
            String types = m.group(3).replaceAll(" \\w+(, |$)", "$1").replace(", ", ",");
            want.add((m.group(1) == null ? "" : m.group(1) + " ") + m.group(2) + "(" + types + ")");
        }
        Set<String> got = new TreeSet<>();
        for (Method f : TurnedBoards.class.getDeclaredMethods()) {
            if (Modifier.isPublic(f.getModifiers())) {
                got.add(f.getReturnType() + " " + f.getName() + types(f));
            }
        }
        for (Constructor<?> c : TurnedBoards.class.getConstructors()) {
            got.add(c.getName() + types(c));
        }
        Bench.due("33 calls and the constructor", want.size(), FACE.size() + 1);
        Bench.due("the face is " + want + ", it was " + got, got.equals(want), true);
        Bench.due("NONE", TurnedBoards.NONE, -1);
        Bench.due("NOTHING", TurnedBoards.NOTHING, -1000000000000000L);
    }

    private static String types(Executable call) {
        StringBuilder text = new StringBuilder("(");
        for (Class<?> type : call.getParameterTypes()) {
            text.append(text.length() > 1 ? "," : "").append(type);
        }
        return text.append(')').toString();
    }

    private static void face() {
        Class<?> c = TurnedBoards.class;
        Bench.due("final", Modifier.isFinal(c.getModifiers()), true);
        Bench.due("constructors", c.getDeclaredConstructors().length, 1);
        Set<String> open = new HashSet<>();
        for (Method m : c.getDeclaredMethods()) {
            if (Modifier.isPublic(m.getModifiers())) {
                open.add(m.getName());
            } else {
                Bench.due(m + " is private", Modifier.isPrivate(m.getModifiers()), true);
                Bench.due(m + " has a name of its own", FACE.contains(m.getName()), false);
            }
        }
        Bench.due("the face", open.equals(FACE), true);
        for (Field f : c.getDeclaredFields()) {
            boolean constant = f.getName().equals("NONE") || f.getName().equals("NOTHING");
            Bench.due(f + " is as visible as it should be", Modifier.isPublic(f.getModifiers()), constant);
            Bench.due(f + " is private", Modifier.isPrivate(f.getModifiers()), !constant);
        }
        Bench.due("some twelve classes", c.getDeclaredClasses().length < 12, true);
        for (Class<?> inner : c.getDeclaredClasses()) {
            Bench.due(inner + " is static", Modifier.isStatic(inner.getModifiers()), true);
            int fields = 0;
            for (Field f : inner.getDeclaredFields()) {
                fields += Modifier.isStatic(f.getModifiers()) ? 0 : 1;
                if (Modifier.isStatic(f.getModifiers())) {
                    Bench.due(f + " is final", Modifier.isFinal(f.getModifiers()), true);
                }
            }
            Bench.due(inner + " has some twenty fields", fields <= 20, true);
            for (Method m : inner.getDeclaredMethods()) {
                Bench.due(m + " takes at most seven", m.getParameterCount() <= 7, true);
                Bench.due(m + " has a name of its own", FACE.contains(m.getName()), false);
            }
        }
    }
}
