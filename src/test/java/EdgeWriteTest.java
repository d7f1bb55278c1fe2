import java.util.NoSuchElementException;

/** Boundary cases of "TO WRITE", and of promises 11 and 12. */
final class EdgeWriteTest {
    private final Checks c = new Checks();

    public static void main(String[] args) {
        EdgeWriteTest t = new EdgeWriteTest();
        t.c.part(t::emptyCircuit);
        t.c.part(t::noGates);
        t.c.part(t::conesAlone);
        t.c.part(t::byDepth);
        t.c.part(t::byVariable);
        t.c.part(t::inputsAnew);
        t.c.part(t::greaterFirst);
        t.c.part(t::nothingFolded);
        t.c.part(t::stepLengths);
        t.c.part(t::digits);
        t.c.part(t::longest);
        t.c.part(t::latest);
        t.c.part(t::circuitStays);
        t.c.end();
    }

    private void written(String text, String decimal, String binary) {
        GateText x = Checks.loaded(text);
        c.due("write(false) of " + Checks.shown(text), x.write(false), decimal.length());
        c.due("as aag", Checks.outText(x), decimal);
        c.due("write(true) of " + Checks.shown(text), x.write(true), binary.length());
        c.due("as aig", Checks.outText(x), binary);
        c.due("look(5)", x.look(5), binary.length());
        // What is written is read again, and written as before.
        c.due("aag read and written", Checks.written(Checks.loaded(decimal), false), decimal);
        c.due("aig read and written", Checks.written(Checks.loaded(binary), true), binary);
    }

    private void emptyCircuit() {
        c.sentence("Promise 11, the first circuit", "OUT becomes the circuit's text");
        GateText x = new GateText();
        c.due("write(false)", x.write(false), 14);
        c.due("as aag", Checks.outText(x), "aag 0 0 0 0 0\n");
        c.due("write(true)", x.write(true), 14);
        c.due("as aig", Checks.outText(x), "aig 0 0 0 0 0\n");
        written("aag 1000 0 0 0 0\n", "aag 0 0 0 0 0\n", "aig 0 0 0 0 0\n");
    }

    private void noGates() {
        c.sentence("Terms, TO WRITE", "M is I + A; L 0");
        written("aag 9 0 0 2 0\n0\n1\n", "aag 0 0 0 2 0\n0\n1\n", "aig 0 0 0 2 0\n0\n1\n");
        written("aag 9 2 0 0 0\n2\n18\n", "aag 2 2 0 0 0\n2\n4\n", "aig 2 2 0 0 0\n");
        written("aag 9 1 0 0 3\n2\n4 2 2\n6 4 4\n8 6 6\n", "aag 1 1 0 0 0\n2\n", "aig 1 1 0 0 0\n");
        written("aag 9 0 0 1 1\n18\n18 0 1\n", "aag 1 0 0 1 1\n2\n2 1 0\n", "aig 1 0 0 1 1\n2\n\1\1");
    }

    private void conesAlone() {
        c.sentence("Terms, TO WRITE", "the gates in cones of outputs alone");
        written("aag 5 1 0 2 4\n2\n7\n2\n4 2 2\n6 2 3\n8 6 6\n10 8 4\n",
                "aag 2 1 0 2 1\n2\n5\n2\n4 3 2\n", "aig 2 1 0 2 1\n5\n2\n\1\1");
        // The same cone twice; one within the other.
        written("aag 3 1 0 4 2\n2\n6\n6\n7\n4\n4 2 1\n6 4 3\n",
                "aag 3 1 0 4 2\n2\n6\n6\n7\n4\n4 2 1\n6 4 3\n", "aig 3 1 0 4 2\n6\n6\n7\n4\n\2\1\2\1");
    }

    private void byDepth() {
        c.sentence("Terms, TO WRITE", "numbered by their depths");
        // Variable 2 has depth 3, 3 depth 2, 4 depth 1.
        written("aag 4 1 0 1 3\n2\n4\n4 6 3\n6 8 2\n8 2 1\n",
                "aag 4 1 0 1 3\n2\n8\n4 2 1\n6 4 2\n8 6 3\n", "aig 4 1 0 1 3\n8\n\2\1\2\2\2\3");
        // Depth, not the way's length to the nearest input: 5 has depth 2 and the least variable.
        written("aag 9 1 0 2 3\n18\n4\n10\n4 18 12\n10 1 18\n12 18 18\n",
                "aag 4 1 0 2 3\n2\n8\n4\n4 2 1\n6 2 2\n8 6 2\n", "aig 4 1 0 2 3\n8\n4\n\2\1\4\0\2\4");
    }

    private void byVariable() {
        c.sentence("Terms, TO WRITE", "those of one depth by their variables");
        written("aag 9 1 0 3 3\n10\n18\n2\n8\n18 10 0\n8 10 1\n2 11 10\n",
                "aag 4 1 0 3 3\n2\n8\n4\n6\n4 3 2\n6 2 1\n8 2 0\n", "aig 4 1 0 3 3\n8\n4\n6\n\1\1\4\1\6\2");
    }

    private void inputsAnew() {
        c.sentence("Terms, TO WRITE", "input k is variable k + 1, gates follow");
        written("aag 9 3 0 3 0\n18\n2\n10\n2\n11\n19\n",
                "aag 3 3 0 3 0\n2\n4\n6\n4\n7\n3\n", "aig 3 3 0 3 0\n4\n7\n3\n");
        // An input that no output needs stays one.
        written("aag 9 3 0 1 1\n18\n2\n10\n4\n4 18 10\n",
                "aag 4 3 0 1 1\n2\n4\n6\n8\n8 6 2\n", "aig 4 3 0 1 1\n8\n\2\4");
    }

    private void greaterFirst() {
        c.sentence("Terms, TO WRITE", "of a gate's two literals the greater one first");
        for (int turn = 0; turn < 2; turn++) {
            String two = turn == 0 ? "2 5\n" : "5 2\n";
            written("aag 3 2 0 1 1\n2\n4\n6\n6 " + two, "aag 3 2 0 1 1\n2\n4\n6\n6 5 2\n", "aig 3 2 0 1 1\n6\n\1\3");
            // By the new literals: input 0 has variable 2 here, input 1 variable 1.
            written("aag 3 2 0 1 1\n4\n2\n6\n6 " + two, "aag 3 2 0 1 1\n2\n4\n6\n6 4 3\n", "aig 3 2 0 1 1\n6\n\2\1");
        }
        // Of one variable: the inverted one is the greater. Twice the same is a step of 0.
        written("aag 2 1 0 1 1\n2\n4\n4 2 3\n", "aag 2 1 0 1 1\n2\n4\n4 3 2\n", "aig 2 1 0 1 1\n4\n\1\1");
        written("aag 2 1 0 1 1\n2\n4\n4 3 3\n", "aag 2 1 0 1 1\n2\n4\n4 3 3\n", "aig 2 1 0 1 1\n4\n\1\0");
        written("aag 2 1 0 1 1\n2\n4\n4 0 0\n", "aag 2 1 0 1 1\n2\n4\n4 0 0\n", "aig 2 1 0 1 1\n4\n\4\0");
        // A gate with a greater variable, but less deep: its new literal is the lesser one.
        written("aag 9 1 0 1 4\n2\n8\n8 6 16\n6 4 4\n4 2 1\n16 2 2\n",
                "aag 5 1 0 1 4\n2\n10\n4 2 1\n6 2 2\n8 4 4\n10 8 6\n", "aig 5 1 0 1 4\n10\n\2\1\4\0\4\0\2\2");
    }

    private void nothingFolded() {
        c.sentence("Terms, TO WRITE", "(Nothing is folded.)");
        written("aag 6 1 0 1 5\n2\n12\n4 1 2\n6 1 2\n8 4 0\n10 6 7\n12 8 10\n",
                "aag 6 1 0 1 5\n2\n12\n4 2 1\n6 2 1\n8 4 0\n10 7 6\n12 10 8\n",
                "aig 6 1 0 1 5\n12\n\2\1\4\1\4\4\3\1\2\2");
    }

    /** The last of n gates in a row has the steps p and q. */
    private void lastSteps(int n, int p, int q) {
        String binary = Texts.firstLine(true, n, 0, 2, n) + 2 * n + "\n" + (2 * n - 2) + "\n" + "\2\0".repeat(n - 1)
                + Texts.step(p) + Texts.step(q);
        GateText x = Checks.loaded(binary);
        c.due("write(true)", x.write(true), binary.length());
        c.due("steps " + p + " and " + q + " of the last of " + n, Checks.outText(x), binary);
    }

    private void stepLengths() {
        c.sentence("Promise 11, as aig", "A step is one byte below 128, or two");
        for (int step : new int[] {126, 127, 128, 129, 255, 256, 257, 511, 512, 598}) {
            // As q, behind p 2: the row's last gate needs the one before, so that its depth stays.
            lastSteps(300, 2, step);
        }
        for (int step : new int[] {0, 1, 127, 128, 129}) {
            lastSteps(66, 2, step);
            lastSteps(66, 1, step);
        }
        // As p: gates of depth 1 that need variable 0 alone have steps as large as their literals.
        for (int n : new int[] {63, 64, 65, 300}) {
            String binary = allOfZero(n);
            c.due("steps p up to " + 2 * n, Checks.written(Checks.loaded(binary), true), binary);
        }
    }

    /** The first n - 1 gates are ANDs of 0 and 0 or of 1 and 0; the others bring them into one cone. */
    private static String allOfZero(int n) {
        int half = n / 2;
        int all = half + half - 1;
        StringBuilder text = new StringBuilder(Texts.firstLine(true, all, 0, 1, all));
        text.append(2 * all).append('\n');
        for (int v = 1; v <= half; v++) {
            text.append(Texts.step(v % 2 == 0 ? 2 * v : 2 * v - 1)).append(Texts.step(v % 2));
        }
        for (int v = half + 1; v <= all; v++) {
            int before = v == half + 1 ? 2 : 2 * (v - 1);
            int other = 2 * (v - half + 1);
            int more = Math.max(before, other);
            text.append(Texts.step(2 * v - more)).append(Texts.step(more - Math.min(before, other)));
        }
        return text.toString();
    }

    /** Numbers where they get one digit more. */
    private void digits() {
        c.sentence("Promise 11, as aag", "A NUMBER in it: decimal digits");
        for (int n : new int[] {4, 5, 9, 10, 49, 50, 99, 100, 300}) {
            StringBuilder decimal = new StringBuilder(Texts.firstLine(false, n, 0, 1, n));
            decimal.append(2 * n + 1).append('\n');
            for (int v = 1; v <= n; v++) {
                decimal.append(2 * v).append(' ').append(2 * v - 1).append(' ').append(2 * v - 2).append('\n');
            }
            String text = decimal.toString();
            GateText x = Checks.loaded(Texts.firstLine(true, n, 0, 1, n) + (2 * n + 1) + "\n" + "\1\1".repeat(n));
            c.due("write(false)", x.write(false), text.length());
            c.due("a row of " + n, Checks.outText(x), text);
        }
    }

    /** 14 inputs, 16 outputs and 300 gates, all numbers as long as they can be. */
    private void longest() {
        c.sentence("Promise 12, the longest", "OUT the text that was written latest");
        StringBuilder decimal = new StringBuilder(Texts.firstLine(false, 314, 14, 16, 300));
        StringBuilder binary = new StringBuilder(Texts.firstLine(true, 314, 14, 16, 300));
        for (int k = 1; k <= 14; k++) {
            decimal.append(2 * k).append('\n');
        }
        decimal.append("629\n".repeat(16));
        binary.append("629\n".repeat(16));
        for (int v = 15; v <= 314; v++) {
            decimal.append(2 * v).append(' ').append(2 * v - 1).append(' ').append(2 * v - 2).append('\n');
            binary.append("\1\1");
        }
        GateText x = Checks.loaded(binary.toString());
        c.due("write(false)", x.write(false), decimal.length());
        c.due("as aag", Checks.outText(x), decimal.toString());
        int size = decimal.length();
        c.due("its last byte", x.out(size - 1), 10);
        c.throwsDue("no byte behind it", NoSuchElementException.class, () -> x.out(size));
    }

    private void latest() {
        c.sentence("Promise 12", "OUT the text that was written latest");
        GateText x = Checks.loaded(Checks.KEPT);
        c.due("write(false)", x.write(false), 26);
        c.due("write(true)", x.write(true), 18);
        c.due("a shorter OUT", Checks.outText(x), "aig 3 2 0 1 1\n6\n\2\2");
        c.due("write(false)", x.write(false), 26);
        c.due("a longer OUT", Checks.outText(x), Checks.KEPT);
        Checks.load(x, "aag 0 0 0 0 0\n");
        c.due("OUT stays when a circuit comes", Checks.outText(x), Checks.KEPT);
        Checks.load(x, "");
        c.due("OUT stays when none comes", Checks.outText(x), Checks.KEPT);
        x.write(false);
        c.due("OUT is the new circuit's", Checks.outText(x), "aag 0 0 0 0 0\n");
    }

    /** To write numbers anew, but not the circuit itself. */
    private void circuitStays() {
        c.sentence("Promise 11, the circuit stays", "OUT becomes the circuit's text");
        GateText x = Checks.loaded("aag 9 1 0 1 2\n18\n4\n4 18 19\n6 4 4\n");
        for (int turn = 0; turn < 2; turn++) {
            x.write(turn == 0);
            c.due("look(1)", x.look(1), 2);
            c.due("look(3)", x.look(3), 9);
            c.due("literal(0, 0)", x.literal(0, 0), 18);
            c.due("literal(1, 1)", x.literal(1, 1), 6);
            c.due("literal(3, 0)", x.literal(3, 0), 19);
            c.due("depth(6)", x.depth(6), 2);
            c.due("look(4)", x.look(4), 0);
            c.due("look(6)", x.look(6), 0);
        }
    }
}
