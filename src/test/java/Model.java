import java.util.ArrayList;
import java.util.BitSet;
import java.util.HashMap;
import java.util.HashSet;
import java.util.List;
import java.util.Map;
import java.util.Set;
import java.util.TreeMap;
import java.util.TreeSet;
import java.util.regex.Matcher;
import java.util.regex.Pattern;

/**
 * The document once more, by other means than GateText's: texts by regular expressions, loops by
 * transitive closure, measures by recursion, folding by names. Slow and plain.
 */
final class Model {
    private static final String NUMBER = "(0|[1-9][0-9]{0,8})";
    private static final Pattern FIRST = Pattern.compile(NUMBER + (" " + NUMBER).repeat(4) + "\n");
    private static final Pattern ONE = Pattern.compile(NUMBER + "\n");
    private static final Pattern THREE = Pattern.compile(NUMBER + (" " + NUMBER).repeat(2) + "\n");
    private static final Pattern STEP = Pattern.compile("[\\x00-\\x7f]|[\\x80-\\xff][\\x01-\\x7f]");
    private static final Pattern END = Pattern.compile("c\n");

    /** Ends the reading of a text; never seen outside. */
    private static final class Stop extends RuntimeException {
        private static final long serialVersionUID = 1;
        final int error;
        final int place;

        Stop(int error, int place) {
            this.error = error;
            this.place = place;
        }
    }

    int error;
    int place;
    int top;
    final List<Integer> inputs = new ArrayList<>();
    final List<Integer> outputs = new ArrayList<>();
    final List<int[]> gates = new ArrayList<>();
    private final Map<Integer, int[]> gateOf = new TreeMap<>();
    private String text = "";
    private int at;

    static Model of(String text) {
        Model m = new Model();
        m.text = text;
        try {
            m.read();
        } catch (Stop s) {
            m.error = s.error;
            m.place = s.place;
        }
        return m;
    }

    private void read() {
        if (!text.startsWith("aag ") && !text.startsWith("aig ")) {
            throw new Stop(1, 0);
        }
        boolean binary = text.charAt(1) == 'i';
        at = 4;
        Matcher first = next(FIRST, 2);
        int[] n = new int[5];
        for (int i = 0; i < 5; i++) {
            n[i] = Integer.parseInt(first.group(i + 1));
        }
        if (n[2] != 0) {
            throw new Stop(3, 0);
        }
        long sum = (long) n[1] + n[4];
        if (n[0] > 1000 || n[1] > 14 || n[3] > 16 || n[4] > 300 || n[0] < sum || binary && n[0] > sum) {
            throw new Stop(4, 0);
        }
        top = n[0];
        for (int k = 0; k < n[1]; k++) {
            inputs.add(binary ? 2 * k + 2 : own(next(ONE, 5)));
        }
        for (int k = 0; k < n[3]; k++) {
            outputs.add(used(next(ONE, 5), 1));
        }
        for (int k = 0; k < n[4]; k++) {
            int[] gate = binary ? stepped(2 * (n[1] + 1 + k)) : lined();
            gates.add(gate);
            gateOf.put(gate[0] / 2, gate);
        }
        if (at < text.length()) {
            next(END, 5);
        }
        findMissing();
        findLoop();
    }

    /** The pattern from here on; else the place is the first byte that no match goes on with. */
    private Matcher next(Pattern pattern, int errorOfNone) {
        Matcher m = pattern.matcher(text);
        for (int to = at; to <= text.length(); to++) {
            m.region(at, to);
            if (m.matches()) {
                at = to;
                return m;
            }
            if (!m.hitEnd()) {
                throw new Stop(errorOfNone, to - 1);
            }
        }
        throw new Stop(errorOfNone, text.length());
    }

    private int own(Matcher line) {
        int l = Integer.parseInt(line.group(1));
        if (l % 2 == 1 || l == 0 || l > 2 * top + 1 || inputs.contains(l) || gateOf.containsKey(l / 2)) {
            throw new Stop(6, line.start(1));
        }
        return l;
    }

    private int used(Matcher line, int group) {
        int l = Integer.parseInt(line.group(group));
        if (l > 2 * top + 1) {
            throw new Stop(6, line.start(group));
        }
        return l;
    }

    private int[] lined() {
        Matcher line = next(THREE, 5);
        int own = own(line);
        return new int[] {own, used(line, 2), used(line, 3)};
    }

    private int[] stepped(int own) {
        int start = at;
        int p = stepOf(next(STEP, 5).group());
        if (p == 0 || p > own) {
            throw new Stop(6, start);
        }
        start = at;
        int q = stepOf(next(STEP, 5).group());
        if (q > own - p) {
            throw new Stop(6, start);
        }
        return new int[] {own, own - p, own - p - q};
    }

    private static int stepOf(String s) {
        return s.length() == 1 ? s.charAt(0) : s.charAt(0) - 128 + 128 * s.charAt(1);
    }

    boolean stands(int literal) {
        return literal == 0 || literal == 1
                || literal > 1 && (inputs.contains(literal & ~1) || gateOf.containsKey(literal / 2));
    }

    private void findMissing() {
        TreeSet<Integer> missing = new TreeSet<>();
        List<Integer> all = new ArrayList<>(outputs);
        gates.forEach(g -> all.addAll(List.of(g[1], g[2])));
        for (int l : all) {
            if (!stands(l)) {
                missing.add(l / 2);
            }
        }
        if (!missing.isEmpty()) {
            throw new Stop(7, missing.first());
        }
    }

    private void findLoop() {
        Map<Integer, BitSet> needs = new TreeMap<>();
        for (int v : gateOf.keySet()) {
            BitSet b = new BitSet();
            b.set(gateOf.get(v)[1] / 2);
            b.set(gateOf.get(v)[2] / 2);
            needs.put(v, b);
        }
        for (int over : needs.keySet()) {
            for (BitSet b : needs.values()) {
                if (b.get(over)) {
                    b.or(needs.get(over));
                }
            }
        }
        for (int v : needs.keySet()) {
            if (needs.get(v).get(v)) {
                throw new Stop(8, v);
            }
        }
    }

    int valueOf(int literal, int x) {
        return valueOf(literal, x, new HashMap<>());
    }

    private int valueOf(int literal, int x, Map<Integer, Integer> known) {
        int v = literal / 2;
        if (!known.containsKey(v)) {
            int[] g = gateOf.get(v);
            int k = inputs.indexOf(2 * v);
            known.put(v, v == 0 ? 0 : k >= 0 ? x >> k & 1 : valueOf(g[1], x, known) & valueOf(g[2], x, known));
        }
        return known.get(v) ^ literal & 1;
    }

    int allOutputs(int x) {
        int all = 0;
        for (int o = 0; o < outputs.size(); o++) {
            all += valueOf(outputs.get(o), x) << o;
        }
        return all;
    }

    private final Map<Integer, Integer> depths = new HashMap<>();

    int depthOf(int literal) {
        int v = literal / 2;
        if (!depths.containsKey(v)) {
            int[] g = gateOf.get(v);
            depths.put(v, g == null ? 0 : 1 + Math.max(depthOf(g[1]), depthOf(g[2])));
        }
        return depths.get(v);
    }

    Set<Integer> coneOf(int... literals) {
        Set<Integer> cone = new TreeSet<>();
        for (int l : literals) {
            addCone(l / 2, cone);
        }
        return cone;
    }

    private void addCone(int v, Set<Integer> cone) {
        if (gateOf.containsKey(v) && cone.add(v)) {
            addCone(gateOf.get(v)[1] / 2, cone);
            addCone(gateOf.get(v)[2] / 2, cone);
        }
    }

    private int[] outputRow() {
        return outputs.stream().mapToInt(Integer::intValue).toArray();
    }

    Set<Integer> outputCones() {
        return coneOf(outputRow());
    }

    private final Map<Integer, String> folds = new HashMap<>();
    private final Map<String, String> ands = new HashMap<>();
    private final Map<String, String[]> parts = new HashMap<>();

    private static String not(String name) {
        return name.startsWith("!") ? name.substring(1) : "!" + name;
    }

    /** A folded literal's name: "0" or an input's or an AND's, with "!" when it is inverted. */
    String foldOf(int literal) {
        int v = literal / 2;
        if (!folds.containsKey(v)) {
            int[] g = gateOf.get(v);
            folds.put(v, v == 0 ? "0" : g == null ? "i" + v : and(foldOf(g[1]), foldOf(g[2])));
        }
        return literal % 2 == 0 ? folds.get(v) : not(folds.get(v));
    }

    private String and(String a, String b) {
        if (a.equals("0") || b.equals("0") || a.equals(not(b))) {
            return "0";
        }
        if (a.equals("!0") || a.equals(b)) {
            return b;
        }
        if (b.equals("!0")) {
            return a;
        }
        String key = new TreeSet<>(List.of(a, b)).toString();
        if (!ands.containsKey(key)) {
            String name = "a" + ands.size();
            ands.put(key, name);
            parts.put(name, new String[] {a, b});
        }
        return ands.get(key);
    }

    int alikeOf(int one, int other) {
        String a = foldOf(one);
        String b = foldOf(other);
        return a.equals(b) ? 1 : a.equals(not(b)) ? -1 : 0;
    }

    int foldedCount() {
        Set<String> left = new HashSet<>();
        for (int o : outputs) {
            addParts(foldOf(o), left);
        }
        return left.size();
    }

    private void addParts(String name, Set<String> left) {
        String plain = name.startsWith("!") ? name.substring(1) : name;
        if (parts.containsKey(plain) && left.add(plain)) {
            for (String part : parts.get(plain)) {
                addParts(part, left);
            }
        }
    }

    String writtenAs(boolean binary) {
        List<Integer> row = new ArrayList<>(outputCones());
        row.sort((a, b) -> depthOf(2 * a) != depthOf(2 * b) ? depthOf(2 * a) - depthOf(2 * b) : a - b);
        Map<Integer, Integer> fresh = new HashMap<>(Map.of(0, 0));
        inputs.forEach(i -> fresh.put(i / 2, fresh.size()));
        row.forEach(v -> fresh.put(v, fresh.size()));
        int sum = inputs.size() + row.size();
        StringBuilder all = new StringBuilder(String.format("a%cg %d %d 0 %d %d\n", binary ? 'i' : 'a', sum,
                inputs.size(), outputs.size(), row.size()));
        for (int k = 1; k <= inputs.size() && !binary; k++) {
            all.append(2 * k).append("\n");
        }
        outputs.forEach(o -> all.append(2 * fresh.get(o / 2) + o % 2).append("\n"));
        for (int v : row) {
            int own = 2 * fresh.get(v);
            int[] g = gateOf.get(v);
            int a = 2 * fresh.get(g[1] / 2) + g[1] % 2;
            int b = 2 * fresh.get(g[2] / 2) + g[2] % 2;
            int more = Math.max(a, b);
            int less = Math.min(a, b);
            all.append(binary ? step(own - more) + step(more - less) : own + " " + more + " " + less + "\n");
        }
        return all.toString();
    }

    private static String step(int s) {
        return s < 128 ? "" + (char) s : "" + (char) (s % 128 + 128) + (char) (s / 128);
    }
}
