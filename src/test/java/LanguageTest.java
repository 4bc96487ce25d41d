import java.io.IOException;
import java.lang.reflect.Field;
import java.lang.reflect.Modifier;
import java.nio.file.Files;
import java.nio.file.Path;
import java.util.Set;
import java.util.TreeSet;
import java.util.regex.Matcher;
import java.util.regex.Pattern;

/** The rules of LANGUAGE.md that can be seen in the words of the source. FaceTest has those of the face. */
public final class LanguageTest {
    private static final Path SOURCE = Path.of("src/main/java/SproutTable.java");
    private static final int MOST_LINES_OF_A_METHOD = 60;
    private static final Set<String> LIBRARY = Set.of("String", "StringBuilder", "Integer", "Long", "Math",
            "System", "Arrays", "ArrayList", "List", "Iterator", "Iterable", "Comparable");
    private static final Set<String> IMPORTS = Set.of("java.util.ArrayList", "java.util.Arrays", "java.util.Iterator",
            "java.util.List");
    private static final Set<Class<?>> CONSTANTS = Set.of(int.class, long.class, boolean.class, char.class,
            String.class, int[].class, long[].class, char[].class, byte[].class);
    private static final Due DUE = new Due();

    public static void main(String[] args) throws IOException {
        String source = Files.readString(SOURCE);
        String code = withoutComments(source);
        wordsRuledOut(code);
        library(code);
        staticFields(SproutTable.class);
        for (Class<?> inside : SproutTable.class.getDeclaredClasses()) {
            staticFields(inside);
        }
        methodLengths(code);
        DUE.end();
    }

    /** Texts and characters go too, and every line stays a line. */
    private static String withoutComments(String source) {
        Matcher found = Pattern.compile("/\\*.*?\\*/|//[^\n]*|\"(\\\\.|[^\"\\\\])*\"|'(\\\\.|[^'\\\\])*'",
                Pattern.DOTALL).matcher(source);
        return found.replaceAll(piece -> "\n".repeat(piece.group().split("\n", -1).length - 1));
    }

    private static void none(String rule, String code, String pattern) {
        Matcher found = Pattern.compile(pattern).matcher(code);
        DUE.same(rule + ": " + pattern, found.find() ? found.group() : "", "");
    }

    private static void wordsRuledOut(String code) {
        none("one file without a package", code, "\\bpackage\\b");
        none("rule 2", code, "->|::");
        none("rule 2", code, "\\bnew \\w+(<\\w*>)?\\([^;]*\\) *\\{");
        none("rule 4", code, "\\w+Exact\\b");
        none("rule 5", code, "\\bstatic *\\{");
        none("rule 6", code, "\\b(throws?|try|catch|finally|synchronized|assert)\\b");
        none("rule 6", code, "\\b(hashCode|toString)\\b");
        none("rule 9", code, "while *\\( *true *\\)|for *\\([^;]*; *;");
        none("rule 13", code, "\\b(native|volatile|Thread|Random)\\b");
    }

    /** Every name with a great letter is one of the file's own or of the library that is left. */
    private static void library(String code) {
        TreeSet<String> own = new TreeSet<>();
        Matcher declared = Pattern.compile("\\b(class|record|enum|interface) (\\w+)").matcher(code);
        while (declared.find()) {
            own.add(declared.group(2));
        }
        DUE.is("classes of the file", own.size() > 1, true);
        Matcher imported = Pattern.compile("\\bimport ([\\w.*]+)").matcher(code);
        while (imported.find()) {
            DUE.is("import " + imported.group(1), IMPORTS.contains(imported.group(1)), true);
        }
        Matcher named = Pattern.compile("(?<![\\w.])[A-Z]\\w*[a-z]\\w*").matcher(code);
        while (named.find()) {
            DUE.is("name " + named.group(), own.contains(named.group()) || LIBRARY.contains(named.group()), true);
        }
        none("rule 4", code, "\\bSystem\\.(?!arraycopy\\b)\\w+");
        none("rule 4", code, "\\bjava[x]?\\.(?!util\\.)\\w+");
    }

    private static void staticFields(Class<?> c) {
        for (Field f : c.getDeclaredFields()) {
            if (Modifier.isStatic(f.getModifiers()) && !f.isSynthetic()) {
                DUE.is("rule 5: " + f + " is final", Modifier.isFinal(f.getModifiers()), true);
                DUE.is("rule 5: " + f + " is a constant", CONSTANTS.contains(f.getType()), true);
            }
        }
    }

    /** A method begins with a line that ends with ") {" where no method is open. */
    private static void methodLengths(String code) {
        Pattern head = Pattern.compile("^ +[\\w<>\\[\\] ]+\\([^()]*\\) \\{$");
        String[] lines = code.split("\n", -1);
        int methods = 0;
        int depth = 0;
        int begun = -1;
        int outside = 0;
        for (int k = 0; k < lines.length; k++) {
            if (begun < 0 && head.matcher(lines[k]).matches()) {
                begun = k;
                outside = depth;
                methods++;
            }
            depth += lines[k].replaceAll("[^{]", "").length() - lines[k].replaceAll("[^}]", "").length();
            if (begun >= 0 && depth == outside) {
                int length = k - begun + 1;
                DUE.is("rule 11: lines from " + lines[begun].trim(), length <= MOST_LINES_OF_A_METHOD, true);
                begun = -1;
            }
        }
        DUE.is("every brace is closed", depth, 0);
        DUE.is("methods seen", methods > 50, true);
    }
}
