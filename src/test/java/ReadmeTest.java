import java.io.IOException;
import java.lang.reflect.InvocationTargetException;
import java.lang.reflect.Method;
import java.lang.reflect.Modifier;
import java.nio.file.Files;
import java.nio.file.Path;
import java.util.List;
import java.util.TreeSet;
import java.util.regex.Matcher;
import java.util.regex.Pattern;
import java.util.stream.Stream;

/** README.md: what it says of an answer is what the class answers; every call, class and test is named. */
final class ReadmeTest {
    private static final Pattern CALL =
            Pattern.compile("x\\.(\\w+)\\(([^)]*)\\); +// (throws \\w+|0x[0-9a-f]+|-?\\d+)(?:[: ].*)?");
    private static final Pattern FEED = Pattern.compile("feed\\(x, (\".*\")\\);");
    private static final Pattern ERROR_ROW = Pattern.compile("\\| (\\d) \\| .* \\| `(.*)` \\| (\\d+) \\|");
    private static final Pattern TOLD_BYTES = Pattern.compile(".* bytes: \"(.*)\"");
    private static final Pattern TEST_ROW = Pattern.compile("\\| `(\\w+Test)` \\|.*");
    private static final Pattern CLASS_ROW = Pattern.compile("- `(\\w+)`: .*");
    private static final Pattern CALL_ROW = Pattern.compile("\\| `(\\w+)\\(.*\\)` \\|.*");

    private final Checks c = new Checks();
    private final List<String> lines;
    private final TreeSet<String> called = new TreeSet<>();
    private GateText x = new GateText();

    private ReadmeTest() throws IOException {
        lines = Files.readAllLines(Path.of("README.md"));
    }

    public static void main(String[] args) throws IOException {
        ReadmeTest t = new ReadmeTest();
        t.examples();
        t.errors();
        t.readings();
        t.names();
        t.c.end();
    }

    /** Every line of the examples is one that is understood here; none is passed over. */
    private void examples() {
        boolean inside = false;
        for (String line : lines) {
            if (line.equals("GateText x = new GateText();")) {
                x = new GateText();
                inside = true;
            } else if (line.equals("```")) {
                inside = false;
            } else if (inside) {
                example(line);
            }
        }
        c.due("calls in the examples", called.toString(), face().toString());
    }

    private void example(String line) {
        Matcher feed = FEED.matcher(line);
        Matcher call = CALL.matcher(line);
        if (feed.matches()) {
            Checks.feedAll(x, unquoted(feed.group(1)));
        } else if (call.matches()) {
            called.add(call.group(1));
            String told = call.group(3);
            String due = told.startsWith("0x") ? "" + Long.parseUnsignedLong(told.substring(2), 16) : told;
            c.due(line, answer(call.group(1), call.group(2)), due);
            toldBytes(line);
        } else {
            c.due("a line of an example", line, "a call with its answer");
        }
    }

    private void toldBytes(String line) {
        Matcher told = TOLD_BYTES.matcher(line);
        if (told.matches()) {
            c.due(line, Checks.outText(x), told.group(1).translateEscapes());
        }
    }

    private String answer(String name, String arguments) {
        try {
            for (Method m : GateText.class.getMethods()) {
                if (m.getName().equals(name) && m.getDeclaringClass() == GateText.class) {
                    return String.valueOf(m.invoke(x, values(m.getParameterTypes(), arguments)));
                }
            }
            return "no such method";
        } catch (InvocationTargetException e) {
            return "throws " + e.getCause().getClass().getSimpleName();
        } catch (IllegalAccessException e) {
            return "not public";
        }
    }

    private static Object[] values(Class<?>[] types, String arguments) {
        Object[] all = new Object[types.length];
        String[] words = arguments.split(", ");
        for (int i = 0; i < types.length; i++) {
            if (types[i] == boolean.class) {
                all[i] = Boolean.valueOf(words[i]);
            } else if (types[i] == long.class) {
                all[i] = Long.decode(words[i].replace("L", ""));
            } else {
                all[i] = Integer.valueOf(words[i]);
            }
        }
        return all;
    }

    private static String unquoted(String literal) {
        return literal.substring(1, literal.length() - 1).translateEscapes();
    }

    private void errors() {
        int due = 1;
        for (String line : lines) {
            Matcher row = ERROR_ROW.matcher(line);
            if (row.matches()) {
                c.due("the row of error", Integer.parseInt(row.group(1)), due);
                c.bad(row.group(2).translateEscapes(), due, Integer.parseInt(row.group(3)));
                due++;
            }
        }
        c.due("rows of errors", due - 1, 8);
    }

    /** "Where the document can be read in two ways": the three that are told there. */
    private void readings() {
        GateText vanished = Checks.loaded("aag 4 2 0 1 2\n2\n4\n8\n6 2 4\n8 6 0\n");
        c.due("what only a vanished gate needed", vanished.folded(), 0);
        c.bad("aag 2 0 0 1 0\n4\nx", 5, 16);
        c.bad("aag 1 0 0 0 1\n2 2 2\nx", 5, 20);
        c.bad("aag 3 0 0 0 3\n2 4 4\n4 6 6\n6 4 4\n", 8, 2);
    }

    private void names() throws IOException {
        c.due("calls in the table", named(CALL_ROW).toString(), face().toString());
        TreeSet<String> inside = new TreeSet<>();
        for (Class<?> one : GateText.class.getDeclaredClasses()) {
            inside.add(one.getSimpleName());
        }
        c.due("classes inside", named(CLASS_ROW).toString(), inside.toString());
        TreeSet<String> tests = new TreeSet<>();
        try (Stream<Path> files = Files.list(Path.of("src/test/java"))) {
            files.map(f -> f.getFileName().toString()).filter(f -> f.endsWith("Test.java"))
                    .forEach(f -> tests.add(f.substring(0, f.length() - ".java".length())));
        }
        c.due("tests", named(TEST_ROW).toString(), tests.toString());
    }

    private TreeSet<String> named(Pattern row) {
        TreeSet<String> all = new TreeSet<>();
        for (String line : lines) {
            Matcher m = row.matcher(line);
            if (m.matches()) {
                all.add(m.group(1));
            }
        }
        return all;
    }

    private static TreeSet<String> face() {
        TreeSet<String> all = new TreeSet<>();
        for (Method m : GateText.class.getDeclaredMethods()) {
            if (Modifier.isPublic(m.getModifiers())) {
                all.add(m.getName());
            }
        }
        return all;
    }
}
