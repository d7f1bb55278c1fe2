import java.io.IOException;
import java.lang.reflect.Field;
import java.lang.reflect.Method;
import java.lang.reflect.Modifier;
import java.nio.file.Files;
import java.nio.file.Path;
import java.util.ArrayDeque;
import java.util.Deque;
import java.util.LinkedHashMap;
import java.util.Map;
import java.util.Set;
import java.util.TreeMap;
import java.util.TreeSet;
import java.util.regex.Matcher;
import java.util.regex.Pattern;

/** LANGUAGE.md, as far as the words of the source and the members of the class show its rules. */
final class LanguageTest {
    private static final Path SOURCE = Path.of("src/main/java/GateText.java");
    private static final Pattern METHOD =
            Pattern.compile("^( +)(?:public |private |static |final )*[\\w\\[\\]]+ (\\w+)\\([^;]*\\{$");
    private static final Pattern CALLED = Pattern.compile("(?<!new )\\b(\\w+)\\(");
    private static final Pattern ELEMENT = Pattern.compile("(?<!new )\\b(\\w+)\\[[^\\]]");
    private static final Set<String> LOOKS_AT_ITS_INDEX = Set.of("pick", "store", "add", "byteAt");
    private static final int MOST_LINES = 60;
    private static final int MOST_OPEN_CALLS = 8;

    private final Checks c = new Checks();
    private final String source;
    /** Methods by their names, which are all different, with the words of their bodies. */
    private final Map<String, String> bodies = new LinkedHashMap<>();

    private LanguageTest() throws IOException {
        source = withoutTexts(Files.readString(SOURCE));
        findMethods();
    }

    public static void main(String[] args) throws IOException {
        LanguageTest t = new LanguageTest();
        t.library();
        t.words();
        t.members();
        t.lengths();
        t.indices();
        t.openCalls();
        t.c.end();
    }

    /** The source without comments and without what stands in written texts. */
    private static String withoutTexts(String all) {
        return all.replaceAll("(?s)/\\*.*?\\*/", "").replaceAll("//[^\n]*", "").replaceAll("\"[^\"\n]*\"", "\"\"");
    }

    private void findMethods() {
        String name = "";
        String end = "";
        StringBuilder body = new StringBuilder();
        for (String line : source.split("\n")) {
            Matcher head = METHOD.matcher(line);
            if (name.isEmpty() && head.find()) {
                name = head.group(2);
                end = head.group(1) + "}";
                body.setLength(0);
            } else if (!name.isEmpty() && line.equals(end)) {
                c.due("a second method " + name, bodies.containsKey(name) ? 1 : 0, 0);
                bodies.put(name, body.toString());
                name = "";
            } else if (!name.isEmpty()) {
                body.append(line).append('\n');
            }
        }
    }

    private TreeSet<String> found(String pattern) {
        TreeSet<String> all = new TreeSet<>();
        Matcher m = Pattern.compile(pattern).matcher(source);
        while (m.find()) {
            all.add(m.group(1));
        }
        return all;
    }

    private void library() {
        c.sentence("rule 4", "The library: only what stands here");
        c.due("imports", found("import ([\\w.]+);").toString(),
                "[java.util.Arrays, java.util.NoSuchElementException]");
        c.due("calls of the library", found("\\b((?:Arrays|Math|Integer|Long|System|String)\\.\\w+)").toString(),
                "[Arrays.fill, Math.max, Math.min]");
        c.due("what is made", found("new (\\w+)").toString(), "[ByteRow, Circuit, IllegalArgumentException, "
                + "IllegalStateException, NoSuchElementException, Reader, Settler, Walker, Writer, int, long]");
    }

    private void words() {
        c.sentence("rules 2, 6 and 13", "words that the rules leave out, and those that the class has no need of");
        for (String word : new String[] {"try", "catch", "finally", "synchronized", "assert", "instanceof", "package",
            "transient", "volatile", "native", "Object", "Thread", "null", "double", "float", "var"}) {
            c.due(word, found("\\b(" + word + ")\\b").toString(), "[]");
        }
        c.due("lambdas, method references", found("(->|::)").toString(), "[]");
        c.due("throws without new", found("throw (?!new )(\\w+)").toString(), "[]");
        c.due("static blocks", found("(static \\{)").toString(), "[]");
    }

    private void members() {
        c.sentence("rules 5 and 11", "Static fields are final .. at most seven parameters .. some twelve classes, "
                + "and a class some twenty fields");
        Deque<Class<?>> all = new ArrayDeque<>();
        all.add(GateText.class);
        int count = 0;
        while (!all.isEmpty()) {
            Class<?> one = all.remove();
            count++;
            all.addAll(Set.of(one.getDeclaredClasses()));
            int fields = 0;
            for (Field f : one.getDeclaredFields()) {
                int m = f.getModifiers();
                fields += Modifier.isStatic(m) ? 0 : 1;
                c.due(one.getSimpleName() + "." + f.getName() + " is final if static",
                        Modifier.isStatic(m) && !(Modifier.isFinal(m) && f.getType().isPrimitive()) ? 0 : 1, 1);
            }
            c.due(one.getSimpleName() + " has few fields", fields <= 20 ? 1 : 0, 1);
            for (Method m : one.getDeclaredMethods()) {
                c.due(m.getName() + " has few parameters", m.getParameterCount() <= 7 ? 1 : 0, 1);
                c.due(m.getName() + " is found in the source", bodies.containsKey(m.getName()) ? 1 : 0, 1);
            }
        }
        c.due("there are few classes", count <= 12 ? 1 : 0, 1);
    }

    private void lengths() {
        c.sentence("rule 11", "Methods stay short (some sixty lines)");
        bodies.forEach((name, body) -> c.due(name + " is short", body.lines().count() <= MOST_LINES ? 1 : 0, 1));
    }

    private void indices() {
        c.sentence("rule 7", "an index is looked at before it is used, a divisor before it divides");
        bodies.forEach((name, body) -> {
            boolean uses = ELEMENT.matcher(body).find();
            c.due(name + " uses no element itself", uses && !LOOKS_AT_ITS_INDEX.contains(name) ? 1 : 0, 0);
        });
        // A divisor is a constant above 0, or the unit of a loop that goes on only while it is above 0.
        c.due("divisors", found("[/%]=? ?(\\w+)").toString(), "[10, STEP_BASE, WORD_BYTES, unit]");
    }

    /** No recursion, and few calls that stand open at once. */
    private void openCalls() {
        c.sentence("rules 8 and 11", "calls that are no recursion go at most eight deep");
        Map<String, Integer> deep = new TreeMap<>();
        for (String name : bodies.keySet()) {
            int levels = openCalls(name, new ArrayDeque<>(), deep);
            c.due(name + " goes " + levels + " calls deep", levels <= MOST_OPEN_CALLS ? 1 : 0, 1);
        }
    }

    private int openCalls(String name, Deque<String> open, Map<String, Integer> deep) {
        if (open.contains(name)) {
            c.due(name + " calls itself, by " + open, 1, 0);
            return 0;
        }
        Integer known = deep.get(name);
        if (known != null) {
            return known;
        }
        open.push(name);
        int most = 0;
        Matcher m = CALLED.matcher(bodies.get(name));
        while (m.find()) {
            if (bodies.containsKey(m.group(1))) {
                most = Math.max(most, openCalls(m.group(1), open, deep));
            }
        }
        open.pop();
        deep.put(name, most + 1);
        return most + 1;
    }
}
