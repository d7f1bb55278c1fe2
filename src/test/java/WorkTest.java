/** Promises 4 and 5: value and outputs. */
final class WorkTest {
    private static final Class<IllegalArgumentException> ARGUMENT = IllegalArgumentException.class;

    public static void main(String[] args) {
        Checks c = new Checks();
        adder(c);
        wrongArguments(c);
        manyOutputs(c);
        allInputs(c);
        c.end();
    }

    /** Half an adder: inputs of variables 5 and 1, gates in an order that is not theirs. */
    private static void adder(Checks c) {
        GateText x = Checks.loaded("aag 7 2 0 2 3\n10\n2\n6\n13\n6 13 15\n12 2 10\n14 3 11\n");
        for (int in = 0; in < 4; in++) {
            int a = in & 1;
            int b = in >> 1;
            c.due("value(10, " + in + ")", x.value(10, in), a);
            c.due("value(11, " + in + ")", x.value(11, in), 1 - a);
            c.due("value(2, " + in + ")", x.value(2, in), b);
            c.due("value(12, " + in + ")", x.value(12, in), a & b);
            c.due("value(13, " + in + ")", x.value(13, in), 1 - (a & b));
            c.due("value(6, " + in + ")", x.value(6, in), a ^ b);
            c.due("value(0, " + in + ")", x.value(0, in), 0);
            c.due("value(1, " + in + ")", x.value(1, in), 1);
            c.due("outputs(" + in + ")", x.outputs(in), (a ^ b) | (1 - (a & b)) << 1);
        }
    }

    private static void wrongArguments(Checks c) {
        GateText x = Checks.loaded("aag 7 2 0 1 1\n2\n4\n12\n12 2 4\n");
        for (int literal : new int[] {-1, -2, -12, 6, 7, 8, 9, 10, 11, 14, 15, 16, 17, 2001, 2002, 2003,
            Integer.MAX_VALUE, Integer.MIN_VALUE}) {
            c.throwsDue("value(" + literal + ", 0)", ARGUMENT, () -> x.value(literal, 0));
        }
        for (int in : new int[] {-1, 4, 5, 1 << 14, Integer.MAX_VALUE, Integer.MIN_VALUE}) {
            c.throwsDue("value(2, " + in + ")", ARGUMENT, () -> x.value(2, in));
            c.throwsDue("outputs(" + in + ")", ARGUMENT, () -> x.outputs(in));
        }
        c.due("value(12, 3)", x.value(12, 3), 1);
    }

    private static void manyOutputs(Checks c) {
        StringBuilder all = new StringBuilder("aag 1 1 0 16 0\n2\n");
        int high = 0;
        for (int o = 0; o < 16; o++) {
            boolean inverted = o % 3 == 0;
            all.append(inverted ? "3\n" : "2\n");
            high |= inverted ? 0 : 1 << o;
        }
        GateText x = Checks.loaded(all.toString());
        c.due("outputs(0)", x.outputs(0), 65535 - high);
        c.due("outputs(1)", x.outputs(1), high);
    }

    private static void allInputs(Checks c) {
        GateText x = Checks.loaded("aig 14 14 0 14 0\n2\n4\n6\n8\n10\n12\n14\n16\n18\n20\n22\n24\n26\n28\n");
        for (int in : new int[] {0, 1, 1 << 13, 12345, 16383}) {
            c.due("outputs(" + in + ")", x.outputs(in), in);
        }
        c.throwsDue("outputs(16384)", ARGUMENT, () -> x.outputs(16384));
    }
}
