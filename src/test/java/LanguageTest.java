import java.io.IOException;
import java.lang.reflect.Field;
import java.lang.reflect.Method;
import java.lang.reflect.Modifier;
import java.nio.file.Files;
import java.nio.file.Path;
import java.util.Arrays;
import java.util.HashSet;
import java.util.Set;
import java.util.regex.Matcher;
import java.util.regex.Pattern;

/** Those of LANGUAGE.md's rules that a look at the file and the class can tell. Run from the project's root. */
public final class LanguageTest {
    private static final Set<String> FACE = new HashSet<>(Arrays.asList(("feed end shop fault has letter word board "
            + "glyph kept seen doubt reads says becomes line piece best hand been lasts mend years chance stroke paint "
            + "undo seed ask image octet on status").split(" ")));

    public static void main(String[] args) throws IOException {
        String source = Files.readString(Path.of("src/main/java/TurnedBoards.java"));
        String code = source.replaceAll("(?s)/\\*.*?\\*/", "").replaceAll("//[^\n]*", "")
                .replaceAll("\"[^\"\n]*\"", "\"\"");
        for (String word : new String[] {"throw", "throws", "try", "catch", "synchronized", "assert", "package",
            "volatile", "HashMap", "Random", "System\\.out", "null", "double", "float"}) {
            Bench.due("uses of " + word, uses(code, "\\b" + word + "\\b"), 0);
        }
        Bench.due("lambdas, references", uses(code, "->|::"), 0);
        Bench.due("Exact", uses(code, "Exact\\b"), 0);
        Bench.due("imports", uses(code, "\\bimport\\b"), uses(code, "import java\\.util\\.(Arrays|ArrayList|List);"));
        Bench.due("signs beyond 127", source.chars().filter(c -> c > 126 || c < 32 && c != 10).count(), 0);
        face();
        Bench.finish();
    }

    private static int uses(String code, String pattern) {
        Matcher m = Pattern.compile(pattern).matcher(code);
        int n = 0;
        while (m.find()) {
            n++;
        }
        return n;
    }

    private static void face() {
        Class<?> c = TurnedBoards.class;
        Bench.due("final", Modifier.isFinal(c.getModifiers()), true);
        Bench.due("constructors", c.getDeclaredConstructors().length, 1);
        Set<String> open = new HashSet<>();
        for (Method m : c.getDeclaredMethods()) {
            if (Modifier.isPublic(m.getModifiers())) {
                open.add(m.getName());
            } else {
                Bench.due(m + " is private", Modifier.isPrivate(m.getModifiers()), true);
                Bench.due(m + " has a name of its own", FACE.contains(m.getName()), false);
            }
        }
        Bench.due("the face", open.equals(FACE), true);
        for (Field f : c.getDeclaredFields()) {
            boolean constant = f.getName().equals("NONE") || f.getName().equals("NOTHING");
            Bench.due(f + " is as visible as it should be", Modifier.isPublic(f.getModifiers()), constant);
            Bench.due(f + " is private", Modifier.isPrivate(f.getModifiers()), !constant);
        }
        Bench.due("some twelve classes", c.getDeclaredClasses().length < 12, true);
        for (Class<?> inner : c.getDeclaredClasses()) {
            Bench.due(inner + " is static", Modifier.isStatic(inner.getModifiers()), true);
            int fields = 0;
            for (Field f : inner.getDeclaredFields()) {
                fields += Modifier.isStatic(f.getModifiers()) ? 0 : 1;
                if (Modifier.isStatic(f.getModifiers())) {
                    Bench.due(f + " is final", Modifier.isFinal(f.getModifiers()), true);
                }
            }
            Bench.due(inner + " has some twenty fields", fields <= 20, true);
            for (Method m : inner.getDeclaredMethods()) {
                Bench.due(m + " takes at most seven", m.getParameterCount() <= 7, true);
                Bench.due(m + " has a name of its own", FACE.contains(m.getName()), false);
            }
        }
    }
}
