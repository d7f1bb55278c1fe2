import java.util.NoSuchElementException;

/** What the document says of ordinary inputs, from its first line on; its boundary cases are in Edge..Test. */
final class DocumentTest {
    /** Inputs 8 and 3, gates 5, 7 and 2 in an order that is not theirs; variables 1, 4, 6 and 9 are nothing. */
    private static final String MIXED = "aag 9 2 0 3 3\n16\n6\n11\n4\n17\n14 11 4\n4 6 17\n10 4 7\n";

    private final Checks c = new Checks();

    public static void main(String[] args) {
        DocumentTest t = new DocumentTest();
        t.c.part(t::oneKindToTheOther);
        t.c.part(t::literals);
        t.c.part(t::gatesAndOutputs);
        t.c.part(t::firstLine);
        t.c.part(t::decimalKind);
        t.c.part(t::binaryKind);
        t.c.part(t::places);
        t.c.part(t::depthAndCone);
        t.c.part(t::tapeAtFirst);
        t.c.part(t::value);
        t.c.part(t::outputs);
        t.c.part(t::literal);
        t.c.part(t::alike);
        t.c.part(t::write);
        t.c.part(t::look);
        t.c.end();
    }

    private void oneKindToTheOther() {
        c.sentence("What it is", "read, with the first error and its place; worked, measured, folded; "
                + "written anew in one kind or the other");
        GateText x = new GateText();
        c.due("load() of aag", Checks.load(x, MIXED), 0);
        String decimal = Checks.written(x, false);
        String binary = Checks.written(x, true);
        c.due("as aag", decimal, "aag 4 2 0 3 2\n2\n4\n9\n6\n3\n6 4 3\n8 6 5\n");
        c.due("as aig", binary, "aig 4 2 0 3 2\n9\n6\n3\n\2\1\2\1");
        c.due("load() of what is none", Checks.load(x, "aig 4 2 0 3 2\n9\n6\n3\n\2\1\2"), 5);
        c.due("its place", x.look(7), 23);
        c.due("load() of the aig", Checks.load(x, binary), 0);
        c.due("as aag again", Checks.written(x, false), decimal);
        c.due("load() of the aag", Checks.load(x, decimal), 0);
        c.due("as aig again", Checks.written(x, true), binary);
        c.due("worked", x.outputs(2), 1 + 2 + 4);
        c.due("measured", x.depth(8), 2);
        c.due("folded", x.folded(), 2);
    }

    private void literals() {
        c.sentence("Terms", "LITERALS: 2 * v is variable v, 2 * v + 1 it inverted");
        GateText x = Checks.loaded(MIXED);
        for (int variable : new int[] {0, 2, 3, 5, 7, 8}) {
            for (int in = 0; in < 4; in++) {
                int straight = x.value(2 * variable, in);
                c.due("value(" + (2 * variable + 1) + ", " + in + ")", x.value(2 * variable + 1, in), 1 - straight);
            }
            c.due("alike", x.alike(2 * variable, 2 * variable + 1), -1);
            c.due("depth", x.depth(2 * variable), x.depth(2 * variable + 1));
            c.due("cone", x.cone(2 * variable), x.cone(2 * variable + 1));
        }
    }

    private void gatesAndOutputs() {
        c.sentence("Terms", "A gate is the AND of two literals; an output is a literal");
        GateText x = Checks.loaded(MIXED);
        for (int in = 0; in < 4; in++) {
            int all = 0;
            for (int k = 0; k < 3; k++) {
                int and = x.value(x.literal(3, k), in) & x.value(x.literal(4, k), in);
                c.due("gate " + k + " for " + in, x.value(x.literal(1, k), in), and);
                all |= x.value(x.literal(2, k), in) << k;
            }
            c.due("outputs(" + in + ")", x.outputs(in), all);
        }
    }

    private void firstLine() {
        c.sentence("Terms", "Both kinds begin with three letters, a blank and the line M I L O A");
        GateText x = Checks.loaded("aag 9 1 0 3 2\n2\n2\n2\n2\n4 2 2\n6 2 2\n");
        sizes(x, 9, 1, 3, 2);
        c.due("load() of aig", Checks.load(x, "aig 5 3 0 1 2\n2\n\2\0\2\0"), 0);
        sizes(x, 5, 3, 1, 2);
    }

    private void sizes(GateText x, int variables, int inputs, int outputs, int gates) {
        c.due("M", x.look(3), variables);
        c.due("I", x.look(0), inputs);
        c.due("O", x.look(2), outputs);
        c.due("A", x.look(1), gates);
    }

    private void decimalKind() {
        GateText x = Checks.loaded(MIXED);
        c.sentence("Terms, aag", "then I lines of one number, the inputs' literals");
        row(x, 0, 16, 6);
        c.sentence("Terms, aag", "O lines, the outputs' literals");
        row(x, 2, 11, 4, 17);
        c.sentence("Terms, aag", "a gate's own literal, and the two that it is the AND of");
        row(x, 1, 14, 4, 10);
        row(x, 3, 11, 17, 7);
        row(x, 4, 4, 6, 4);
    }

    private void binaryKind() {
        c.sentence("Terms, aig", "M is I + A");
        GateText x = Checks.loaded("aig 5 2 0 2 3\n10\n7\n\1\1\3\4\4\3");
        c.due("M", x.look(3), 5);
        c.bad("aig 6 2 0 2 3\n10\n7\n\1\1\3\4\4\3", 4, 0);
        c.sentence("Terms, aig", "Then O lines of one number");
        row(x, 2, 10, 7);
        c.sentence("Terms, aig", "it is the AND of g - p and g - p - q");
        row(x, 1, 6, 8, 10);
        row(x, 3, 5, 5, 6);
        row(x, 4, 4, 1, 3);
    }

    private void row(GateText x, int what, int... due) {
        for (int k = 0; k < due.length; k++) {
            c.due("literal(" + what + ", " + k + ")", x.literal(what, k), due[k]);
        }
        c.throwsDue("literal(" + what + ", " + due.length + ")", NoSuchElementException.class,
                () -> x.literal(what, due.length));
    }

    private void places() {
        c.sentence("Terms, ERRORS", "its PLACE is a byte's number, from 0 on");
        String text = "aag 2 1 0 1 1\n2\n4\n4 2 3\n";
        for (int k = 4; k < text.length(); k++) {
            c.bad(text.substring(0, k) + "?", k < 14 ? 2 : 5, k);
        }
        c.sentence("Terms, ERRORS", "6 a literal that cannot be (place: where its number, or step, begins)");
        c.bad("aag 9 1 0 2 1\n200\n18\n19\n4 18 19\n", 6, 14);
        c.bad("aag 9 1 0 2 1\n18\n18\n190\n4 18 19\n", 6, 20);
        c.bad("aag 9 1 0 2 1\n18\n18\n19\n18 18 19\n", 6, 23);
        c.bad("aag 9 1 0 2 1\n18\n18\n19\n4 180 19\n", 6, 25);
        c.bad("aag 9 1 0 2 1\n18\n18\n19\n4 18 190\n", 6, 28);
        c.bad("aig 2 1 0 1 1\n6\n\2\2", 6, 14);
        c.bad("aig 2 1 0 1 1\n4\n\5\2", 6, 16);
        c.bad("aig 2 1 0 1 1\n4\n\2\3", 6, 17);
        c.bad("aig 2 1 0 1 1\n4\n\2\u0080\1", 6, 17);
        c.sentence("Terms, ERRORS", "(place of 3 and 4: 0)");
        c.bad("aag 2 1 1 1 1\n2\n4\n4 2 3\n", 3, 0);
        c.bad("aag 1 1 0 1 1\n2\n4\n4 2 3\n", 4, 0);
    }

    private void depthAndCone() {
        c.sentence("Terms", "Its CONE: the gates that are on such ways");
        // Gate 6 needs 5 and, past it, 3; 4 needs variable 0 alone; 7 is needed by none.
        GateText x = Checks.loaded("aag 7 2 0 0 5\n2\n4\n12 10 7\n6 4 2\n10 6 9\n8 0 1\n14 12 12\n");
        int[] cones = {0, 0, 0, 1, 1, 3, 4, 5};
        int[] depths = {0, 0, 0, 1, 1, 2, 3, 4};
        for (int v = 0; v <= 7; v++) {
            c.due("cone(" + 2 * v + ")", x.cone(2 * v), cones[v]);
        }
        c.sentence("Promise 7", "A literal's depth");
        for (int v = 0; v <= 7; v++) {
            c.due("depth(" + 2 * v + ")", x.depth(2 * v), depths[v]);
            c.due("depth(" + (2 * v + 1) + ")", x.depth(2 * v + 1), depths[v]);
        }
    }

    private void tapeAtFirst() {
        c.sentence("Terms", "The TAPE has at most 8192 bytes, none at first");
        GateText x = new GateText();
        c.due("look(4)", x.look(4), 0);
        c.due("feed(3, 0)", x.feed(3, 0), 3);
        c.due("feed(8, 0)", x.feed(8, 0), 11);
    }

    private void value() {
        c.sentence("Promise 4", "The value (0, 1) of a literal, where input k is bit k of x");
        GateText x = Checks.loaded("aag 9 3 0 0 0\n16\n6\n2\n");
        for (int in = 0; in < 8; in++) {
            c.due("input 0 of " + in, x.value(16, in), in & 1);
            c.due("input 1 of " + in, x.value(6, in), in >> 1 & 1);
            c.due("input 2 of " + in, x.value(2, in), in >> 2);
            c.due("input 2 inverted of " + in, x.value(3, in), 1 - (in >> 2));
        }
    }

    private void outputs() {
        c.sentence("Promise 5", "All outputs as a number: output o is bit o");
        GateText x = Checks.loaded("aag 3 2 0 5 1\n2\n4\n1\n4\n0\n6\n3\n6 4 2\n");
        c.due("outputs(0)", x.outputs(0), 1 + 16);
        c.due("outputs(1)", x.outputs(1), 1);
        c.due("outputs(2)", x.outputs(2), 1 + 2 + 16);
        c.due("outputs(3)", x.outputs(3), 1 + 2 + 8);
    }

    private void literal() {
        c.sentence("Promise 6", "Input k's, gate k's (in the order of the text), or output k's literal (what 0, 1, 2)");
        GateText x = Checks.loaded("aag 8 2 0 2 2\n14\n6\n7\n13\n12 6 10\n10 15 14\n");
        row(x, 0, 14, 6);
        row(x, 1, 12, 10);
        row(x, 2, 7, 13);
    }

    private void alike() {
        c.sentence("Promise 10", "Whether two literals are the same when they are folded (1), "
                + "one the other's inverse (-1), or neither (0)");
        GateText x = Checks.loaded("aag 7 2 0 0 5\n2\n4\n6 2 5\n8 5 2\n10 7 8\n12 7 1\n14 12 4\n");
        int[][] due = {{6, 8, 1}, {8, 6, 1}, {6, 9, -1}, {7, 9, 1}, {10, 0, 1}, {10, 1, -1}, {12, 6, -1},
            {12, 9, 1}, {14, 4, 0}, {14, 12, 0}, {2, 4, 0}, {2, 2, 1}, {2, 3, -1}, {6, 2, 0}};
        for (int[] d : due) {
            c.due("alike(" + d[0] + ", " + d[1] + ")", x.alike(d[0], d[1]), d[2]);
        }
    }

    private void write() {
        c.sentence("Promise 11", "OUT becomes the circuit's text, as aig or as aag: how many bytes");
        GateText x = Checks.loaded("aag 2 1 0 1 1\n2\n5\n4 2 2\n");
        c.due("write(true)", x.write(true), 18);
        c.due("OUT", Checks.outText(x), "aig 2 1 0 1 1\n5\n\2\0");
        c.due("write(false)", x.write(false), 24);
        c.due("OUT", Checks.outText(x), "aag 2 1 0 1 1\n2\n5\n4 2 2\n");
    }

    private void look() {
        c.sentence("Promise 13", "0 inputs, 1 gates, 2 outputs, 3 M, 4 bytes of the tape, 5 bytes of OUT");
        GateText x = Checks.loaded(MIXED);
        x.feed(7, 0);
        x.write(false);
        int[] due = {2, 3, 3, 9, 7, 36};
        for (int what = 0; what < due.length; what++) {
            c.due("look(" + what + ")", x.look(what), due[what]);
        }
    }
}
