import java.util.ArrayList;
import java.util.Collections;
import java.util.List;
import java.util.Random;

/** GateText against the model, over circuits and damaged texts from a fixed seed. */
final class ModelTest {
    private final Checks c = new Checks();
    private final Random random = new Random(20261115);
    private final int[] errors = new int[9];

    public static void main(String[] args) {
        ModelTest t = new ModelTest();
        for (int run = 0; run < 6000; run++) {
            t.runOnce(run);
        }
        for (int e = 0; e <= 8; e++) {
            System.out.println("  texts with error " + e + ": " + t.errors[e]);
            t.c.due("there were texts with error " + e, t.errors[e] > 20 ? 1 : 0, 1);
        }
        t.c.end();
    }

    /** Some texts one after another on one object, so that what one leaves meets the next. */
    private void runOnce(int run) {
        GateText x = new GateText();
        Model now = Model.of("aag 0 0 0 0 0\n");
        int texts = 1 + random.nextInt(4);
        for (int i = 0; i < texts; i++) {
            String text = damaged(run % 40 == 0 ? circuit(300) : circuit(1 + random.nextInt(12)));
            Model read = Model.of(text);
            String told = "run " + run + ", " + (text.length() < 200 ? Checks.shown(text) : "a long text");
            errors[read.error]++;
            c.due(told + ": load()", Checks.load(x, text), read.error);
            c.due(told + ": look(6)", x.look(6), read.error);
            c.due(told + ": look(7)", x.look(7), read.place);
            now = read.error == 0 ? read : now;
            compare(told, x, now);
        }
    }

    private void compare(String told, GateText x, Model m) {
        c.due(told + ": look(0)", x.look(0), m.inputs.size());
        c.due(told + ": look(1)", x.look(1), m.gates.size());
        c.due(told + ": look(2)", x.look(2), m.outputs.size());
        c.due(told + ": look(3)", x.look(3), m.top);
        c.due(told + ": look(8)", x.look(8), m.outputCones().size());
        c.due(told + ": folded()", x.folded(), m.foldedCount());
        for (int k = 0; k < m.inputs.size(); k++) {
            c.due(told + ": literal(0, " + k + ")", x.literal(0, k), m.inputs.get(k));
        }
        for (int k = 0; k < m.gates.size(); k++) {
            int[] g = m.gates.get(k);
            c.due(told + ": literal(1, " + k + ")", x.literal(1, k), g[0]);
            c.due(told + ": literal(3, " + k + ")", x.literal(3, k), Math.max(g[1], g[2]));
            c.due(told + ": literal(4, " + k + ")", x.literal(4, k), Math.min(g[1], g[2]));
        }
        for (int k = 0; k < m.outputs.size(); k++) {
            c.due(told + ": literal(2, " + k + ")", x.literal(2, k), m.outputs.get(k));
        }
        compareLiterals(told, x, m);
        c.due(told + ": aag", Checks.written(x, false), m.writtenAs(false));
        c.due(told + ": aig", Checks.written(x, true), m.writtenAs(true));
    }

    private void compareLiterals(String told, GateText x, Model m) {
        int in = random.nextInt(1 << m.inputs.size());
        c.due(told + ": outputs(" + in + ")", x.outputs(in), m.allOutputs(in));
        int last = 2 * m.top + 3;
        int stride = 1 + last / 60;
        for (int l = -2 + random.nextInt(stride); l <= last; l += stride) {
            int literal = l;
            int other = random.nextInt(last + 1);
            if (m.stands(l)) {
                c.due(told + ": value(" + l + ", " + in + ")", x.value(l, in), m.valueOf(l, in));
                c.due(told + ": depth(" + l + ")", x.depth(l), m.depthOf(l));
                c.due(told + ": cone(" + l + ")", x.cone(l), m.coneOf(l).size());
            } else {
                c.throwsDue(told + ": value(" + l + ")", IllegalArgumentException.class, () -> x.value(literal, in));
                c.throwsDue(told + ": depth(" + l + ")", IllegalArgumentException.class, () -> x.depth(literal));
                c.throwsDue(told + ": cone(" + l + ")", IllegalArgumentException.class, () -> x.cone(literal));
            }
            if (m.stands(l) && m.stands(other)) {
                c.due(told + ": alike(" + l + ", " + other + ")", x.alike(l, other), m.alikeOf(l, other));
            } else {
                c.throwsDue(told + ": alike(" + l + ")", IllegalArgumentException.class, () -> x.alike(literal, other));
            }
        }
    }

    /** A circuit's text of either kind; the decimal ones have loops and missing variables at times. */
    private String circuit(int mostGates) {
        int inputs = random.nextInt(Math.min(15, 2 + mostGates));
        int gates = mostGates == 300 ? 300 : random.nextInt(mostGates + 1);
        int outputs = random.nextInt(mostGates == 300 ? 17 : 4);
        return random.nextBoolean() ? binary(inputs, outputs, gates) : decimal(inputs, outputs, Math.min(250, gates));
    }

    private String binary(int inputs, int outputs, int gates) {
        StringBuilder all = new StringBuilder(String.format("aig %d %d 0 %d %d\n", inputs + gates, inputs, outputs, gates));
        for (int o = 0; o < outputs; o++) {
            all.append(random.nextInt(2 * (inputs + gates) + 2)).append('\n');
        }
        boolean near = random.nextBoolean();
        for (int g = 2 * inputs + 2; g < 2 * (inputs + gates + 1); g += 2) {
            int p = 1 + random.nextInt(near ? Math.min(g, 4) : g);
            int q = random.nextInt(g - p + 1);
            all.append(step(p)).append(step(q));
        }
        return all.toString();
    }

    private static String step(int s) {
        return s < 128 ? "" + (char) s : "" + (char) (s % 128 + 128) + (char) (s / 128);
    }

    private String decimal(int inputs, int outputs, int gates) {
        int top = inputs + gates + (random.nextBoolean() ? 0 : random.nextInt(mostExtra(gates)));
        List<Integer> variables = new ArrayList<>();
        for (int v = 1; v <= top; v++) {
            variables.add(v);
        }
        if (random.nextInt(4) != 0) {
            Collections.shuffle(variables, random);
        }
        StringBuilder all = new StringBuilder(String.format("aag %d %d 0 %d %d\n", top, inputs, outputs, gates));
        for (int k = 0; k < inputs; k++) {
            all.append(2 * variables.get(k)).append('\n');
        }
        boolean careless = random.nextInt(8) == 0;
        for (int o = 0; o < outputs; o++) {
            all.append(careless ? random.nextInt(2 * top + 2) : before(variables, inputs + gates)).append('\n');
        }
        List<String> lines = new ArrayList<>();
        int wild = random.nextInt(5) == 0 ? 1 + random.nextInt(2) : 0;
        for (int k = 0; k < gates; k++) {
            // A wild gate may need any other, itself too.
            boolean any = wild > 0 && random.nextInt(gates) < 2;
            int limit = inputs + (any ? gates : k);
            lines.add(2 * variables.get(inputs + k) + " " + before(variables, limit) + " " + before(variables, limit) + "\n");
        }
        if (random.nextBoolean()) {
            Collections.shuffle(lines, random);
        }
        lines.forEach(all::append);
        return all.toString();
    }

    private int mostExtra(int gates) {
        return gates > 100 ? 700 : 6;
    }

    /** A literal of variable 0 or of one of the first ones of the row. */
    private int before(List<Integer> variables, int limit) {
        int at = random.nextInt(limit + 1);
        return (at == 0 ? 0 : 2 * variables.get(at - 1)) + random.nextInt(2);
    }

    /** The text as it is, or cut, lengthened, or with some bytes or numbers changed. */
    private String damaged(String text) {
        StringBuilder all = new StringBuilder(text);
        switch (random.nextInt(8)) {
            case 0:
                all.setLength(random.nextInt(all.length() + 1));
                break;
            case 1:
                all.append(List.of("c\n", "c\nrest", "c", "cc", "x", "\n", "0\n", "c \n").get(random.nextInt(8)));
                break;
            case 2:
                for (int i = random.nextInt(3); i >= 0; i--) {
                    all.setCharAt(random.nextInt(all.length()), someByte());
                }
                break;
            case 3:
                all.insert(random.nextInt(all.length() + 1), someByte());
                break;
            case 4:
                all.deleteCharAt(random.nextInt(all.length()));
                break;
            default:
                break;
        }
        return all.toString();
    }

    private char someByte() {
        String likely = "0123456789 \n\nac\0\1\2\177\u0080\u0081\u00ff";
        return random.nextInt(8) == 0 ? (char) random.nextInt(256) : likely.charAt(random.nextInt(likely.length()));
    }
}
