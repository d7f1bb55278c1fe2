/** Boundary cases of "To FOLD", and of promises 9 and 10. */
final class EdgeFoldTest {
    private final Checks c = new Checks();

    public static void main(String[] args) {
        EdgeFoldTest t = new EdgeFoldTest();
        t.c.part(t::withZero);
        t.c.part(t::withInverse);
        t.c.part(t::withOne);
        t.c.part(t::twice);
        t.c.part(t::twins);
        t.c.part(t::noTwins);
        t.c.part(t::fromTheInputsOn);
        t.c.part(t::noOtherRule);
        t.c.part(t::noOutputs);
        t.c.part(t::constantOutputs);
        t.c.part(t::sharedOutputs);
        t.c.part(t::outsideCones);
        t.c.part(t::mostGates);
        t.c.end();
    }

    /** Inputs are variables 1 and 2, the gate is variable 3 and the output. */
    private void oneGate(int one, int other, int as, int left) {
        for (int turn = 0; turn < 2; turn++) {
            int first = turn == 0 ? one : other;
            int second = turn == 0 ? other : one;
            GateText x = Checks.loaded("aag 3 2 0 1 1\n2\n4\n6\n6 " + first + " " + second + "\n");
            String told = " of the AND of " + first + " and " + second;
            c.due("folded()" + told, x.folded(), left);
            for (int l = 0; l < 6; l++) {
                int due = as < 0 || l >> 1 != as >> 1 ? 0 : l == as ? 1 : -1;
                c.due("alike(6, " + l + ")" + told, x.alike(6, l), due);
                c.due("alike(7, " + l + ")" + told, x.alike(7, l), -due);
                c.due("alike(" + l + ", 6)" + told, x.alike(l, 6), due);
            }
            c.due("alike(6, 6)", x.alike(6, 6), 1);
            c.due("alike(6, 7)", x.alike(6, 7), -1);
        }
    }

    private void withZero() {
        c.sentence("Terms, To FOLD", "an AND with 0 .. is 0");
        for (int l = 0; l < 6; l++) {
            oneGate(l, 0, 0, 0);
        }
    }

    private void withInverse() {
        c.sentence("Terms, To FOLD", "or of a literal and its inverse, is 0");
        oneGate(2, 3, 0, 0);
        oneGate(4, 5, 0, 0);
        oneGate(0, 1, 0, 0);
    }

    private void withOne() {
        c.sentence("Terms, To FOLD", "with 1 .. the other one");
        for (int l = 0; l < 6; l++) {
            oneGate(l, 1, l, 0);
        }
    }

    private void twice() {
        c.sentence("Terms, To FOLD", "or of a literal twice, the other one");
        for (int l = 0; l < 6; l++) {
            oneGate(l, l, l, 0);
        }
    }

    private void twins() {
        c.sentence("Terms, To FOLD", "two ANDs of the same two literals (folded themselves) are one");
        for (int a = 2; a < 4; a++) {
            for (int b = 4; b < 6; b++) {
                GateText x = Checks.loaded("aag 4 2 0 2 2\n2\n4\n6\n8\n6 " + a + " " + b + "\n8 " + b + " " + a + "\n");
                c.due("alike(6, 8)", x.alike(6, 8), 1);
                c.due("alike(7, 8)", x.alike(7, 8), -1);
                c.due("folded()", x.folded(), 1);
                c.due("look(8)", x.look(8), 2);
            }
        }
        // Three of them, of several depths, and the first one in no output's cone.
        GateText x = Checks.loaded("aag 7 2 0 2 5\n2\n4\n10\n14\n6 2 4\n8 1 2\n10 8 4\n12 8 8\n14 4 12\n");
        c.due("alike(6, 10)", x.alike(6, 10), 1);
        c.due("alike(6, 14)", x.alike(6, 14), 1);
        c.due("folded()", x.folded(), 1);
        c.due("look(8)", x.look(8), 4);
    }

    private void noTwins() {
        c.sentence("Terms, To FOLD", "of the same two literals");
        GateText x = Checks.loaded("aag 9 3 0 6 6\n2\n4\n6\n8\n10\n12\n14\n16\n18\n"
                + "8 2 4\n10 2 5\n12 3 4\n14 3 5\n16 2 6\n18 4 6\n");
        for (int a = 8; a <= 18; a += 2) {
            for (int b = 8; b <= 18; b += 2) {
                c.due("alike(" + a + ", " + b + ")", x.alike(a, b), a == b ? 1 : 0);
                c.due("alike(" + a + ", " + (b + 1) + ")", x.alike(a, b + 1), a == b ? -1 : 0);
            }
        }
        c.due("folded()", x.folded(), 6);
        // ANDs of inverted ANDs are others than those of the ANDs.
        GateText y = Checks.loaded("aag 6 2 0 2 4\n2\n4\n8\n10\n6 2 4\n8 6 3\n10 7 3\n12 7 2\n");
        c.due("alike(8, 10)", y.alike(8, 10), 0);
        c.due("alike(8, 12)", y.alike(8, 12), 0);
        c.due("folded()", y.folded(), 3);
    }

    private void fromTheInputsOn() {
        c.sentence("Terms, To FOLD", "each literal becomes another one, from the inputs on");
        // Gates in reverse order of the text: all of them fold away at last.
        GateText x = Checks.loaded("aag 7 2 0 1 5\n2\n4\n14\n14 13 10\n12 10 9\n10 8 2\n8 6 1\n6 2 2\n");
        c.due("alike(6, 2)", x.alike(6, 2), 1);
        c.due("alike(8, 2)", x.alike(8, 2), 1);
        c.due("alike(10, 2)", x.alike(10, 2), 1);
        c.due("alike(12, 0)", x.alike(12, 0), 1);
        c.due("alike(14, 2)", x.alike(14, 2), 1);
        c.due("folded()", x.folded(), 0);
        c.due("look(8)", x.look(8), 5);
        // Inverted on the way: gate 6 is input 1 inverted, gate 8 an AND with that.
        GateText y = Checks.loaded("aag 5 2 0 2 3\n2\n4\n8\n10\n6 3 3\n8 6 4\n10 3 4\n");
        c.due("alike(6, 2)", y.alike(6, 2), -1);
        c.due("alike(8, 10)", y.alike(8, 10), 1);
        c.due("folded()", y.folded(), 1);
    }

    private void noOtherRule() {
        c.sentence("Terms, To FOLD, and no other rule", "To FOLD: each literal becomes another one");
        // Always equal, or always 0, but by none of the rules.
        GateText x = Checks.loaded("aag 8 2 0 4 5\n2\n4\n8\n10\n14\n16\n6 2 4\n8 6 2\n10 6 3\n14 3 5\n16 7 15\n");
        c.due("alike(6, 8)", x.alike(6, 8), 0);
        c.due("alike(10, 0)", x.alike(10, 0), 0);
        c.due("folded()", x.folded(), 5);
    }

    private void noOutputs() {
        c.sentence("Promise 9, no outputs", "How many different ANDs are left in the cones of all outputs, folded");
        c.due("no output", Checks.loaded("aag 3 2 0 0 1\n2\n4\n6 2 4\n").folded(), 0);
        c.due("no circuit", new GateText().folded(), 0);
    }

    private void constantOutputs() {
        c.sentence("Promise 9, no ANDs", "How many different ANDs are left in the cones of all outputs, folded");
        c.due("outputs without gates", Checks.loaded("aag 3 2 0 4 1\n2\n4\n0\n1\n2\n5\n6 2 4\n").folded(), 0);
        c.due("an output that folds to 0", Checks.loaded("aag 4 2 0 1 2\n2\n4\n8\n6 2 4\n8 6 7\n").folded(), 0);
        c.due("an output that folds to 1", Checks.loaded("aag 4 2 0 1 2\n2\n4\n9\n6 2 4\n8 6 0\n").folded(), 0);
        c.due("an output that folds to an input", Checks.loaded("aag 4 2 0 1 2\n2\n4\n8\n6 2 0\n8 7 4\n").folded(), 0);
    }

    private void sharedOutputs() {
        c.sentence("Promise 9, different ones", "How many different ANDs are left in the cones of all outputs, folded");
        c.due("one output twice and inverted", Checks.loaded("aag 3 2 0 3 1\n2\n4\n6\n6\n7\n6 2 4\n").folded(), 1);
        c.due("two outputs that fold to one", Checks.loaded("aag 4 2 0 2 2\n2\n4\n6\n9\n6 2 4\n8 4 2\n").folded(), 1);
        c.due("one in the other's cone", Checks.loaded("aag 4 2 0 2 2\n2\n4\n6\n8\n6 2 4\n8 6 3\n").folded(), 2);
        StringBuilder all = new StringBuilder("aag 18 2 0 16 16\n2\n4\n");
        for (int v = 3; v <= 18; v++) {
            all.append(2 * v).append('\n');
        }
        for (int v = 3; v <= 18; v++) {
            all.append(2 * v).append(v % 2 == 0 ? " 2 4\n" : " 4 3\n");
        }
        c.due("16 outputs of two ANDs", Checks.loaded(all.toString()).folded(), 2);
    }

    private void outsideCones() {
        c.sentence("Promise 9, in the cones alone", "How many different ANDs are left in the cones of all outputs, folded");
        GateText x = Checks.loaded("aag 6 2 0 1 4\n2\n4\n6\n6 2 4\n8 2 5\n10 3 4\n12 3 5\n");
        c.due("gates in no output's cone", x.folded(), 1);
        c.due("alike(8, 10) there all the same", x.alike(8, 10), 0);
        c.due("alike(8, 8) there all the same", x.alike(8, 8), 1);
        // Only a gate that has folded away needed gate 3: it is not left.
        c.due("what a folded gate needed", Checks.loaded("aag 5 2 0 1 3\n2\n4\n10\n6 2 4\n8 6 0\n10 9 2\n").folded(), 0);
        c.due("unless another needs it", Checks.loaded("aag 5 2 0 1 3\n2\n4\n10\n6 2 4\n8 6 0\n10 9 7\n").folded(), 1);
    }

    private void mostGates() {
        c.sentence("Promises 9 and 10, of the largest", "GATES (A, 300 at most)");
        GateText one = Checks.loaded("aig 302 2 0 1 300\n604\n" + "\2\2" + twinSteps());
        c.due("300 twins: folded()", one.folded(), 1);
        c.due("the first and the last", one.alike(6, 604), 1);
        GateText none = Checks.loaded("aig 301 1 0 1 300\n602\n" + "\2\0".repeat(300));
        c.due("300 of a literal twice", none.folded(), 0);
        c.due("the last is the input", none.alike(602, 2), 1);
        c.due("the last one's inverse", none.alike(603, 2), -1);
    }

    /** 299 gates more of 4 and 2, behind a first one of variable 3. */
    private static String twinSteps() {
        StringBuilder all = new StringBuilder();
        for (int g = 8; g <= 604; g += 2) {
            all.append(Texts.step(g - 4)).append(Texts.step(2));
        }
        return all.toString();
    }
}
