import java.io.IOException;
import java.lang.reflect.Method;
import java.nio.file.Files;
import java.nio.file.Path;
import java.util.List;
import java.util.Set;
import java.util.TreeSet;
import java.util.regex.Matcher;
import java.util.regex.Pattern;

/** README.md: the answers in its example and in its tables of kinds are the class's own. */
public final class ReadmeTest {
    private static final Pattern CALL = Pattern.compile(
        "words\\.(\\w+)\\(([^)]*)\\); +// (true|false|-?\\d+|BAD_\\w+)(?:; vector (\\d) is ([01]+))?.*");
    private static final Pattern CHANGE = Pattern.compile("\\| `(\\w+)` \\| (-?\\d+ )?\\| `([01]+)` \\|.*");
    private static final Pattern COMBINE = Pattern.compile("\\| `(\\w+)` \\| `([01]+)` \\| `([01]+)` \\|.*");
    private static final String X = "11010";
    private static final int NO_K = Edges.MAX;

    private static int constant(String name) {
        try {
            return BitVectorWords.class.getField(name).getInt(null);
        } catch (ReflectiveOperationException thrown) {
            throw new IllegalStateException(thrown);
        }
    }

    private static Object argument(String text) {
        if (text.startsWith("BitVectorWords.")) {
            return constant(text.substring("BitVectorWords.".length()));
        }
        return text.startsWith("0b") ? Integer.parseInt(text.substring(2), 2) : Integer.parseInt(text);
    }

    private static String answer(Words words, String name, String arguments) {
        Object[] values = List.of(arguments.split(", ")).stream().map(ReadmeTest::argument).toArray();
        for (Method method : Words.class.getDeclaredMethods()) {
            if (method.getName().equals(name)) {
                try {
                    return method.invoke(words, values).toString();
                } catch (ReflectiveOperationException thrown) {
                    throw new IllegalStateException(thrown);
                }
            }
        }
        return "no such call";
    }

    private static void example(List<String> readme) {
        Subject x = new Subject();
        Set<String> called = new TreeSet<>();
        for (String line : readme) {
            Matcher call = CALL.matcher(line.strip());
            if (call.matches()) {
                String due = call.group(3);
                called.add(call.group(1));
                Check.due(line.strip(), answer(x, call.group(1), call.group(2)),
                    due.startsWith("BAD_") ? String.valueOf(constant(due)) : due);
                if (call.group(4) != null) {
                    Check.due(line.strip(), x.show(Integer.parseInt(call.group(4))), call.group(5));
                }
            }
        }
        Check.due("calls in the example", called.toString(),
            "[change, combine, compare, count, findRun, get, length, make, place, put]");
    }

    private static void kindsOfChange(List<String> readme) {
        Set<Integer> kinds = new TreeSet<>();
        for (String line : readme) {
            Matcher row = CHANGE.matcher(line);
            if (row.matches()) {
                int kind = constant(row.group(1));
                int k = row.group(2) == null ? NO_K : Integer.parseInt(row.group(2).strip());
                kinds.add(kind);
                Subject x = Subject.with(X);
                x.change(1, kind, 0, k);
                Check.due(line, x.show(1), row.group(3));
            }
        }
        Check.due("kinds of change in the table", kinds.toString(), "[0, 1, 2, 3, 4, 5, 6, 7, 8]");
    }

    private static void kindsOfCombine(List<String> readme) {
        Set<Integer> kinds = new TreeSet<>();
        for (String line : readme) {
            Matcher row = COMBINE.matcher(line);
            if (row.matches()) {
                int kind = constant(row.group(1));
                kinds.add(kind);
                Subject x = Subject.with(X, row.group(2));
                x.combine(2, kind, 0, 1);
                Check.due(line, x.show(2), row.group(3));
            }
        }
        Check.due("kinds of combine in the table", kinds.toString(), "[0, 1, 2, 3, 4, 5, 6, 7]");
    }

    public static void main(String[] args) throws IOException {
        List<String> readme = Files.readAllLines(Path.of("README.md"));
        Check.sentence("README.md: the example", () -> example(readme));
        Check.sentence("README.md: the kinds of change", () -> kindsOfChange(readme));
        Check.sentence("README.md: the kinds of combine", () -> kindsOfCombine(readme));
        Check.end();
    }
}
