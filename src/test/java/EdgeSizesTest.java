/** Boundary cases of "Terms": how much a circuit has at most, and what its variables stand for. */
final class EdgeSizesTest {
    private static final Class<IllegalArgumentException> ARGUMENT = IllegalArgumentException.class;
    private static final boolean[] KINDS = {false, true};
    private final Checks c = new Checks();

    public static void main(String[] args) {
        EdgeSizesTest t = new EdgeSizesTest();
        t.c.part(t::mostInputs);
        t.c.part(t::mostGates);
        t.c.part(t::mostOutputs);
        t.c.part(t::mostVariables);
        t.c.part(t::allAtTheirMost);
        t.c.part(t::tooLarge);
        t.c.part(t::decimalSum);
        t.c.part(t::binarySum);
        t.c.part(t::variableZero);
        t.c.part(t::nothing);
        t.c.part(t::emptyCircuit);
        t.c.end();
    }

    private void mostInputs() {
        c.sentence("Terms, CIRCUIT", "INPUTS (I, 14 at most)");
        for (boolean binary : KINDS) {
            GateText x = Checks.loaded(Texts.inputsAlone(binary, 14));
            c.due("look(0)", x.look(0), 14);
            c.due("literal(0, 13)", x.literal(0, 13), 28);
            c.due("value(28, 8192)", x.value(28, 8192), 1);
            c.due("value(28, 8191)", x.value(28, 8191), 0);
            c.due("outputs(16383)", x.outputs(16383), 16383);
            c.bad(Texts.inputsAlone(binary, 15), 4, 0);
        }
    }

    private void mostGates() {
        c.sentence("Terms, CIRCUIT", "GATES (A, 300 at most)");
        for (boolean binary : KINDS) {
            GateText x = Checks.loaded(Texts.gatesAlone(binary, 300));
            c.due("look(1)", x.look(1), 300);
            c.due("literal(1, 299)", x.literal(1, 299), 600);
            c.due("value(600, 0)", x.value(600, 0), 1);
            c.due("outputs(0)", x.outputs(0), 1);
            c.bad(Texts.gatesAlone(binary, 301), 4, 0);
        }
    }

    private void mostOutputs() {
        c.sentence("Terms, CIRCUIT", "OUTPUTS (O, 16 at most)");
        for (boolean binary : KINDS) {
            GateText x = Checks.loaded(Texts.outputsAlone(binary, 16));
            c.due("look(2)", x.look(2), 16);
            c.due("literal(2, 15)", x.literal(2, 15), 1);
            c.due("outputs(0)", x.outputs(0), 65535);
            c.bad(Texts.outputsAlone(binary, 17), 4, 0);
        }
    }

    private void mostVariables() {
        c.sentence("Terms, CIRCUIT", "VARIABLES 0 .. M (M 1000 at most)");
        GateText x = Checks.loaded("aag 1000 1 0 2 1\n2000\n2001\n1998\n1998 2000 2001\n");
        c.due("look(3)", x.look(3), 1000);
        c.due("value(2000, 1)", x.value(2000, 1), 1);
        c.due("value(2001, 1)", x.value(2001, 1), 0);
        c.due("depth(2001)", x.depth(2001), 0);
        c.due("outputs(0)", x.outputs(0), 1);
        GateText gate = Checks.loaded("aag 1000 0 0 1 1\n2001\n2000 1 1\n");
        c.due("depth(2001)", gate.depth(2001), 1);
        c.due("value(2001, 0)", gate.value(2001, 0), 0);
        c.due("cone(2000)", gate.cone(2000), 1);
        c.bad("aag 1001 1 0 1 0\n2000\n2001\n", 4, 0);
        c.bad("aag 1001 1 0 1 0\n2002\n2003\n", 4, 0);
    }

    /** A circuit that has of everything the most that there may be, as aag and as aig. */
    private void allAtTheirMost() {
        c.sentence("Terms, CIRCUIT", "INPUTS (I, 14 at most), GATES (A, 300 at most), OUTPUTS (O, 16 at most)");
        StringBuilder all = new StringBuilder(Texts.firstLine(true, 314, 14, 16, 300));
        for (int o = 0; o < 16; o++) {
            all.append(o % 2 == 0 ? "628\n" : "629\n");
        }
        // Each gate is the AND of the one before and an input: gate k adds input k % 14.
        for (int v = 15; v <= 314; v++) {
            int before = 2 * v - 2;
            int input = 2 * ((v - 15) % 14 + 1);
            all.append(Texts.step(2)).append(Texts.step(before - input));
        }
        GateText x = Checks.loaded(all.toString());
        c.due("outputs(16383)", x.outputs(16383), 0x5555);
        c.due("outputs(8191)", x.outputs(8191), 0xaaaa);
        c.due("depth(628)", x.depth(628), 300);
        c.due("cone(628)", x.cone(628), 300);
        c.due("look(8)", x.look(8), 300);
        // The first gate is the AND of input 13, which stands before it, and input 0; each of the
        // others adds an input that is there already, but no rule folds that.
        c.due("folded()", x.folded(), 300);
        c.due("as aig", Checks.written(x, true), all.toString());
    }

    private void tooLarge() {
        c.sentence("Terms, ERRORS", "4 a number of that line is too large");
        String[] parts = {"1000", "14", "0", "16", "300"};
        for (int i = 0; i < parts.length; i++) {
            String[] one = parts.clone();
            for (String number : new String[] {String.valueOf(Integer.parseInt(parts[i]) + 1), "1001", "65536", "999999999"}) {
                one[i] = number;
                c.bad("aag " + String.join(" ", one) + "\n", i == 2 ? 3 : 4, 0);
                c.bad("aig " + String.join(" ", one) + "\n", i == 2 ? 3 : 4, 0);
            }
        }
        // All at their most: the first line is good, the next one is missing.
        c.bad("aag 1000 14 0 16 300\n", 5, 21);
        c.bad("aig 314 14 0 16 300\n", 5, 20);
        // What would be small again with 32 bits, or together.
        c.bad("aag 999999999 999999999 0 0 999999999\n", 4, 0);
        c.bad("aag 0 999999999 0 0 0\n", 4, 0);
        c.bad("aig 999999999 999999999 0 0 0\n", 4, 0);
    }

    private void decimalSum() {
        c.sentence("Terms, ERRORS", "or M is less than I + A");
        c.bad("aag 2 2 0 0 1\n2\n4\n2 4 2\n", 4, 0);
        c.bad("aag 0 1 0 0 0\n2\n", 4, 0);
        c.bad("aag 0 0 0 0 1\n2 0 0\n", 4, 0);
        c.bad("aag 313 14 0 0 300\n", 4, 0);
        c.good("aag 3 2 0 1 1\n2\n4\n6\n6 4 2\n", "aag 3 2 0 1 1\n2\n4\n6\n6 4 2\n");
        c.good("aag 4 2 0 1 1\n2\n8\n6\n6 8 2\n", "aag 3 2 0 1 1\n2\n4\n6\n6 4 2\n");
        c.good("aag 1 0 0 0 0\n", "aag 0 0 0 0 0\n");
        c.bad("aag 314 14 0 0 300\n", 5, 19);
    }

    private void binarySum() {
        c.sentence("Terms, ERRORS", "or for aig not that");
        c.bad("aig 2 2 0 1 1\n4\n\2\2", 4, 0);
        c.bad("aig 4 2 0 1 1\n6\n\2\2", 4, 0);
        c.bad("aig 1000 2 0 1 1\n6\n\2\2", 4, 0);
        c.bad("aig 1 0 0 0 0\n", 4, 0);
        c.bad("aig 0 0 0 0 1\n\1\1", 4, 0);
        c.bad("aig 0 1 0 0 0\n", 4, 0);
        c.good("aig 3 2 0 1 1\n6\n\2\2", "aag 3 2 0 1 1\n2\n4\n6\n6 4 2\n");
    }

    private void variableZero() {
        c.sentence("Terms, CIRCUIT", "variable 0 is always 0");
        GateText x = Checks.loaded("aag 3 1 0 4 2\n2\n0\n1\n4\n6\n4 1 1\n6 2 0\n");
        for (int in = 0; in < 2; in++) {
            c.due("value(0)", x.value(0, in), 0);
            c.due("value(1)", x.value(1, in), 1);
            c.due("outputs", x.outputs(in), 6);
        }
        c.due("depth(0)", x.depth(0), 0);
        c.due("depth(1)", x.depth(1), 0);
        c.due("cone(0)", x.cone(0), 0);
        c.due("cone(1)", x.cone(1), 0);
        c.due("alike(0, 1)", x.alike(0, 1), -1);
    }

    private void nothing() {
        c.sentence("Terms, CIRCUIT", "an input or a gate stands for one variable above 0, others stand for nothing");
        GateText x = Checks.loaded("aag 6 1 0 1 1\n4\n8\n8 4 4\n");
        for (int literal = -3; literal <= 16; literal++) {
            int l = literal;
            boolean stands = l == 0 || l == 1 || l == 4 || l == 5 || l == 8 || l == 9;
            if (stands) {
                c.due("depth(" + l + ")", x.depth(l), l / 8);
                c.due("cone(" + l + ")", x.cone(l), l / 8);
                c.due("value(" + l + ", 1)", x.value(l, 1), l < 2 ? l : 1 - l % 2);
                c.due("alike(" + l + ", 0)", x.alike(l, 0), l == 0 ? 1 : l == 1 ? -1 : 0);
            } else {
                c.throwsDue("depth(" + l + ")", ARGUMENT, () -> x.depth(l));
                c.throwsDue("cone(" + l + ")", ARGUMENT, () -> x.cone(l));
                c.throwsDue("value(" + l + ", 1)", ARGUMENT, () -> x.value(l, 1));
                c.throwsDue("alike(" + l + ", 0)", ARGUMENT, () -> x.alike(l, 0));
                c.throwsDue("alike(0, " + l + ")", ARGUMENT, () -> x.alike(0, l));
            }
        }
    }

    private void emptyCircuit() {
        c.sentence("Terms, CIRCUIT", "a circuit without inputs, gates and outputs (M 0)");
        for (String empty : new String[] {"aag 0 0 0 0 0\n", "aig 0 0 0 0 0\n"}) {
            GateText x = Checks.loaded(Checks.KEPT);
            c.due("load()", Checks.load(x, empty), 0);
            for (int what = 0; what <= 8; what++) {
                c.due("look(" + what + ")", x.look(what), 0);
            }
            c.due("outputs(0)", x.outputs(0), 0);
            c.due("folded()", x.folded(), 0);
            c.throwsDue("outputs(1)", ARGUMENT, () -> x.outputs(1));
            c.throwsDue("value(2, 0)", ARGUMENT, () -> x.value(2, 0));
            c.due("as aag", Checks.written(x, false), "aag 0 0 0 0 0\n");
        }
    }
}
