import java.io.IOException;
import java.lang.reflect.Method;
import java.lang.reflect.Modifier;
import java.nio.file.Files;
import java.nio.file.Path;
import java.util.ArrayList;
import java.util.List;
import java.util.TreeSet;
import java.util.regex.Matcher;
import java.util.regex.Pattern;

/** What README.md says is so: its examples, its table of calls, its list of tests. */
public final class ReadmeTest {
    private static final String NEW_TABLE = "SproutTable table = new SproutTable();";
    private static final Pattern EXAMPLE =
            Pattern.compile("table\\.(\\w+)\\(([-0-9, ]*)\\); +// (NONE|true|false|\\d+)(:? .*)?");
    private static final Pattern CALL_ROW = Pattern.compile("\\| `(int|boolean) (\\w+)\\(([\\w, ]*)\\)` \\|.*");
    private static final Pattern TEST_ROW = Pattern.compile("- `(\\w+Test)`: .*");
    private static final Due DUE = new Due();

    public static void main(String[] args) throws IOException {
        List<String> lines = Files.readAllLines(Path.of("README.md"));
        examples(lines);
        calls(lines);
        tests(lines);
        DUE.end();
    }

    /** Every block of Java is a run of calls on a new object, with the answer behind each call. */
    private static void examples(List<String> lines) {
        TreeSet<String> called = new TreeSet<>();
        boolean inside = false;
        Run run = null;
        for (String line : lines) {
            if (line.startsWith("```")) {
                inside = line.equals("```java");
                run = null;
            } else if (inside && line.equals(NEW_TABLE)) {
                run = new Run();
            } else if (inside) {
                Matcher example = EXAMPLE.matcher(line);
                boolean readable = run != null && example.matches();
                DUE.is("an example: " + line, readable, true);
                if (readable) {
                    DUE.is(line, run.ask(asRun(example)), number(example.group(3)));
                    called.add(example.group(1));
                }
            }
        }
        DUE.same("calls in examples", called.toString(), faceNames().toString());
    }

    private static String asRun(Matcher example) {
        return example.group(1) + " " + example.group(2).replace(",", " ");
    }

    private static long number(String answer) {
        return switch (answer) {
            case "NONE" -> SproutTable.NONE;
            case "true" -> 1;
            case "false" -> 0;
            default -> Long.parseLong(answer);
        };
    }

    private static TreeSet<String> faceNames() {
        TreeSet<String> names = new TreeSet<>();
        for (Method m : SproutTable.class.getDeclaredMethods()) {
            if (Modifier.isPublic(m.getModifiers())) {
                names.add(m.getName());
            }
        }
        return names;
    }

    private static void calls(List<String> lines) {
        TreeSet<String> told = new TreeSet<>();
        for (String line : lines) {
            Matcher row = CALL_ROW.matcher(line);
            if (row.matches()) {
                int parameters = row.group(3).isEmpty() ? 0 : row.group(3).split(",").length;
                told.add(row.group(1) + " " + row.group(2) + "/" + parameters);
            }
        }
        TreeSet<String> face = new TreeSet<>();
        for (Method m : SproutTable.class.getDeclaredMethods()) {
            if (Modifier.isPublic(m.getModifiers())) {
                face.add(m.getReturnType() + " " + m.getName() + "/" + m.getParameterCount());
            }
        }
        DUE.same("table of calls", told.toString(), face.toString());
    }

    private static void tests(List<String> lines) throws IOException {
        TreeSet<String> told = new TreeSet<>();
        for (String line : lines) {
            Matcher row = TEST_ROW.matcher(line);
            if (row.matches()) {
                told.add(row.group(1));
            }
        }
        TreeSet<String> tests = new TreeSet<>();
        String all = String.join("\n", lines);
        for (String name : testFiles()) {
            DUE.is(name + " is named", all.contains("`" + name + "`"), true);
            if (name.endsWith("Test")) {
                tests.add(name);
            }
        }
        DUE.same("list of tests", told.toString(), tests.toString());
    }

    private static List<String> testFiles() throws IOException {
        List<String> names = new ArrayList<>();
        try (var files = Files.newDirectoryStream(Path.of("src/test/java"), "*.java")) {
            for (Path file : files) {
                names.add(file.getFileName().toString().replace(".java", ""));
            }
        }
        return names;
    }
}
