/** Promise 3: load, with each error and its place. */
final class LoadTest {
    private final Checks c = new Checks();

    public static void main(String[] args) {
        LoadTest t = new LoadTest();
        t.letters();
        t.firstLine();
        t.sizes();
        t.decimalForms();
        t.binaryForms();
        t.ends();
        t.decimalLiterals();
        t.binaryLiterals();
        t.missing();
        t.loops();
        t.order();
        t.goodTexts();
        t.afterErrors();
        t.afterLarger();
        t.c.end();
    }

    private void bad(String text, int error, int place) {
        c.bad(text, error, place);
    }

    private void good(String text, String asDecimal) {
        c.good(text, asDecimal);
    }

    private void letters() {
        for (String text : new String[] {"", "a", "aag", "aig", "aag\n", "aig\t", "abg 0 0 0 0 0\n", "bag 0 0 0 0 0\n",
            "aah 0 0 0 0 0\n", "AAG 0 0 0 0 0\n", " aag 0 0 0 0 0\n", "aag0 0 0 0 0\n", "\u0061\u00e9g 0 0 0 0 0\n"}) {
            bad(text, 1, 0);
        }
    }

    private void firstLine() {
        bad("aag ", 2, 4);
        bad("aig ", 2, 4);
        bad("aag  0 0 0 0 0\n", 2, 4);
        bad("aag x", 2, 4);
        bad("aag -1 0 0 0 0\n", 2, 4);
        bad("aag : 0 0 0 0\n", 2, 4);
        bad("aag 1: 0 0 0 0\n", 2, 5);
        bad("aag 1/ 0 0 0 0\n", 2, 5);
        bad("aag 01 0 0 0 0\n", 2, 5);
        bad("aag 00 0 0 0 0\n", 2, 5);
        bad("aag 1", 2, 5);
        bad("aag 1 ", 2, 6);
        bad("aag 1\n", 2, 5);
        bad("aag 1  0 0 0 0\n", 2, 6);
        bad("aag 0 0 0 0\n", 2, 11);
        bad("aag 0 0 0 0 \n", 2, 12);
        bad("aag 0 0 0 0 0", 2, 13);
        bad("aag 0 0 0 0 0 \n", 2, 13);
        bad("aag 0 0 0 0 0 0\n", 2, 13);
        bad("aag 0 0 0 0 0\r\n", 2, 13);
        bad("aag 1234567890 0 0 0 0\n", 2, 13);
        bad("aag 0 0 0 0 9999999999\n", 2, 21);
        bad("aag 0 0 0 0 0\u00b0\n", 2, 13);
        bad("aag 0 0 7 0 x\n", 2, 12);
        bad("aag 9999 9999 0 0 x\n", 2, 18);
    }

    private void sizes() {
        bad("aag 0 0 1 0 0\n", 3, 0);
        bad("aag 999999999 999999999 999999999 999999999 999999999\n", 3, 0);
        bad("aig 7 0 2 0 0\n", 3, 0);
        bad("aag 999999999 999999999 0 999999999 999999999\n", 4, 0);
        bad("aag 1001 0 0 0 0\n", 4, 0);
        bad("aag 1000 15 0 0 0\n", 4, 0);
        bad("aag 1000 0 0 17 0\n", 4, 0);
        bad("aag 1000 0 0 0 301\n", 4, 0);
        bad("aag 2 2 0 0 1\n", 4, 0);
        bad("aag 0 1 0 0 0\n", 4, 0);
        bad("aig 2 2 0 0 1\n", 4, 0);
        bad("aig 4 2 0 0 1\n", 4, 0);
        bad("aig 15 15 0 0 0\n", 4, 0);
        bad("aig 301 0 0 0 301\n", 4, 0);
        bad("aig 0 0 0 17 0\n", 4, 0);
        good("aag 1000 0 0 0 0\n", "aag 0 0 0 0 0\n");
    }

    private void decimalForms() {
        bad("aag 1 1 0 0 0\n", 5, 14);
        bad("aag 1 1 0 0 0\n2", 5, 15);
        bad("aag 1 1 0 0 0\n02\n", 5, 15);
        bad("aag 1 1 0 0 0\n2 \n", 5, 15);
        bad("aag 1 1 0 0 0\n\n", 5, 14);
        bad("aag 1 1 0 0 0\nc\n", 5, 14);
        bad("aag 1 0 0 1 0\n2x\n", 5, 15);
        bad("aag 0 0 0 1 0\n", 5, 14);
        bad("aag 1 0 0 0 1\n2 0\n", 5, 17);
        bad("aag 1 0 0 0 1\n2 0 0 0\n", 5, 19);
        bad("aag 1 0 0 0 1\n2  0 0\n", 5, 16);
        bad("aag 1 0 0 0 1\n2 0 1234567891\n", 5, 27);
        bad("aag 1 0 0 0 1\n2 0 123456789", 5, 27);
    }

    private void binaryForms() {
        bad("aig 1 0 0 1 1\n", 5, 14);
        bad("aig 1 0 0 1 1\n2", 5, 15);
        bad("aig 1 0 0 0 1\n", 5, 14);
        bad("aig 1 0 0 0 1\n\1", 5, 15);
        bad("aig 1 0 0 0 1\n\u0080", 5, 15);
        bad("aig 1 0 0 0 1\n\u0080\0", 5, 15);
        bad("aig 1 0 0 0 1\n\u0081\0", 5, 15);
        bad("aig 1 0 0 0 1\n\u0080\u0080\1", 5, 15);
        bad("aig 1 0 0 0 1\n\1\u00ff", 5, 16);
        bad("aig 1 0 0 0 1\n\1\u00ff\0", 5, 16);
        bad("aig 1 0 0 0 1\n\1\u00ff\u00ff", 5, 16);
    }

    private void ends() {
        bad("aag 0 0 0 0 0\nx", 5, 14);
        bad("aag 0 0 0 0 0\n\n", 5, 14);
        bad("aag 0 0 0 0 0\nc", 5, 15);
        bad("aag 0 0 0 0 0\nc c", 5, 15);
        bad("aag 0 0 0 0 0\ni0 x\n", 5, 14);
        bad("aig 1 0 0 0 1\n\1\1x", 5, 16);
        bad("aig 1 0 0 0 1\n\1\1cc\n", 5, 17);
        good("aag 0 0 0 0 0\nc\n", "aag 0 0 0 0 0\n");
        good("aag 0 0 0 0 0\nc\n\0\u00ff aag c\n\n", "aag 0 0 0 0 0\n");
        good("aig 1 0 0 1 1\n2\n\1\1c\nxyz", "aag 1 0 0 1 1\n2\n2 1 0\n");
    }

    private void decimalLiterals() {
        bad("aag 1 1 0 0 0\n0\n", 6, 14);
        bad("aag 1 1 0 0 0\n1\n", 6, 14);
        bad("aag 1 1 0 0 0\n3\n", 6, 14);
        bad("aag 1 1 0 0 0\n4\n", 6, 14);
        bad("aag 1 1 0 0 0\n999999999\n", 6, 14);
        bad("aag 2 2 0 0 0\n4\n4\n", 6, 16);
        bad("aag 1 0 0 1 0\n4\n", 6, 14);
        bad("aag 0 0 0 2 0\n1\n2\n", 6, 16);
        bad("aag 1 0 0 0 1\n0 0 0\n", 6, 14);
        bad("aag 1 0 0 0 1\n3 0 0\n", 6, 14);
        bad("aag 1 0 0 0 1\n4 9 9\n", 6, 14);
        bad("aag 2 0 0 0 1\n4 6 9\n", 6, 16);
        bad("aag 2 0 0 0 1\n4 1 6\n", 6, 18);
        bad("aag 2 1 0 0 1\n2\n2 0 0\n", 6, 16);
        bad("aag 2 0 0 0 2\n2 0 0\n2 0 0\n", 6, 20);
        bad("aag 6 0 0 0 1\n12 14 15\n", 6, 17);
        // An output's variable is not one that stands for something.
        good("aag 1 0 0 1 1\n2\n2 1 1\n", "aag 1 0 0 1 1\n2\n2 1 1\n");
        // The greatest literals that there can be.
        good("aag 1000 1 0 2 1\n2000\n2001\n1999\n1998 2001 2000\n", "aag 2 1 0 2 1\n2\n3\n5\n4 3 2\n");
        bad("aag 1000 1 0 0 0\n2002\n", 6, 17);
    }

    private void binaryLiterals() {
        bad("aig 1 0 0 1 1\n4\n\1\1", 6, 14);
        bad("aig 1 0 0 0 1\n\0\1", 6, 14);
        // A step p is looked at before q is read.
        bad("aig 1 0 0 0 1\n\0", 6, 14);
        bad("aig 1 0 0 0 1\n\3", 6, 14);
        bad("aig 1 0 0 0 1\n\u0080\1", 6, 14);
        bad("aig 1 0 0 0 1\n\u00ff\177", 6, 14);
        bad("aig 1 0 0 0 1\n\1\2", 6, 15);
        bad("aig 1 0 0 0 1\n\2\1", 6, 15);
        bad("aig 1 0 0 0 1\n\2\u0081\1", 6, 15);
        bad("aig 2 0 0 0 2\n\2\0\5\0", 6, 16);
        bad("aig 2 0 0 0 2\n\2\0\3\2", 6, 17);
        good("aig 1 0 0 1 1\n3\n\2\0", "aag 1 0 0 1 1\n3\n2 0 0\n");
        good("aig 3 2 0 1 1\n7\n\1\0", "aag 3 2 0 1 1\n2\n4\n7\n6 5 5\n");
        good("aig 3 2 0 1 1\n7\n\1\5", "aag 3 2 0 1 1\n2\n4\n7\n6 5 0\n");
    }

    private void missing() {
        bad("aag 1 0 0 1 0\n2\n", 7, 1);
        bad("aag 1 0 0 1 0\n3\n", 7, 1);
        bad("aag 5 0 0 3 0\n10\n7\n8\n", 7, 3);
        bad("aag 5 1 0 1 1\n2\n10\n4 11 2\n", 7, 5);
        bad("aag 5 1 0 1 1\n2\n10\n4 9 7\n", 7, 3);
        bad("aag 5 1 0 1 1\n2\n6\n4 9 2\n", 7, 3);
        // A missing variable comes before a loop, and unused variables do no harm.
        bad("aag 5 1 0 1 1\n2\n10\n4 4 4\n", 7, 5);
        good("aag 5 1 0 1 1\n8\n10\n10 0 8\n", "aag 2 1 0 1 1\n2\n4\n4 2 0\n");
    }

    private void loops() {
        bad("aag 1 0 0 0 1\n2 2 2\n", 8, 1);
        bad("aag 1 0 0 0 1\n2 0 3\n", 8, 1);
        bad("aag 3 0 0 0 3\n2 4 4\n4 6 1\n6 1 5\n", 8, 2);
        bad("aag 3 0 0 0 3\n6 4 4\n2 1 3\n4 6 1\n", 8, 1);
        // Variable 1 only needs a loop, variable 2 lies between two of them.
        bad("aag 4 0 0 0 4\n2 4 1\n4 6 1\n6 6 6\n8 8 4\n", 8, 3);
        bad("aag 4 0 0 0 4\n2 4 1\n4 8 1\n6 6 4\n8 8 1\n", 8, 3);
        bad("aag 5 1 0 1 4\n2\n2\n10 8 2\n8 6 2\n6 10 2\n4 10 2\n", 8, 3);
        bad(longLoop(), 8, 150);
    }

    /** Gates 1 .. 149 lead into a loop of gates 150 .. 260. */
    private static String longLoop() {
        StringBuilder all = new StringBuilder("aag 260 0 0 0 260\n");
        for (int v = 1; v <= 260; v++) {
            int to = v == 260 ? 150 : v + 1;
            all.append(2 * v).append(' ').append(2 * to).append(" 1\n");
        }
        return all.toString();
    }

    /** Errors are met in the text's order; a line's form comes before its literals. */
    private void order() {
        bad("aag 2 2 0 0 0\n3\nx\n", 6, 14);
        bad("aag 2 2 0 0 0\n2\nx\n", 5, 16);
        bad("aag 1 1 0 0 0\n3x\n", 5, 15);
        bad("aag 2 0 0 0 1\n3 9 9x\n", 5, 19);
        bad("aag 2 0 0 1 1\n9\n3 9 9x\n", 6, 14);
        bad("aag 2 0 0 1 0\n4\nx", 5, 16);
        bad("aag 1 0 0 0 1\n2 2 2\nx", 5, 20);
        bad("aig 2 0 0 0 2\n\3\0\u0080", 6, 14);
        bad("aig 2 0 0 0 2\n\1\0\u0080", 5, 17);
    }

    private void goodTexts() {
        good("aag 3 2 0 1 1\n2\n4\n6\n6 2 4\n", "aag 3 2 0 1 1\n2\n4\n6\n6 4 2\n");
        good("aig 3 2 0 1 1\n6\n\2\2", "aag 3 2 0 1 1\n2\n4\n6\n6 4 2\n");
        good("aag 0 0 0 16 0\n0\n1\n0\n1\n0\n1\n0\n1\n0\n1\n0\n1\n0\n1\n0\n1\n",
                "aag 0 0 0 16 0\n0\n1\n0\n1\n0\n1\n0\n1\n0\n1\n0\n1\n0\n1\n0\n1\n");
        good("aig 14 14 0 1 0\n29\n", "aag 14 14 0 1 0\n2\n4\n6\n8\n10\n12\n14\n16\n18\n20\n22\n24\n26\n28\n29\n");
        steps();
        mostGates();
    }

    /** A step of 127, of 128 and of more: gate 64 of 65, whose literal is 130. */
    private void steps() {
        for (int p : new int[] {127, 128, 129, 130}) {
            StringBuilder all = new StringBuilder("aig 65 0 0 1 65\n130\n");
            for (int k = 0; k < 64; k++) {
                all.append("\1\1");
            }
            all.append(p < 128 ? "\177" : (char) p + "\1").append("\0");
            GateText x = Checks.loaded(all.toString());
            c.due("step " + p, x.literal(3, 64), 130 - p);
            c.due("step 0 behind " + p, x.literal(4, 64), 130 - p);
        }
    }

    private void mostGates() {
        StringBuilder all = new StringBuilder("aig 300 0 0 1 300\n601\n");
        for (int k = 0; k < 300; k++) {
            all.append("\2\0");
        }
        GateText x = Checks.loaded(all.toString());
        c.due("300 gates", x.look(1), 300);
        c.due("depth", x.depth(600), 300);
        c.due("outputs", x.outputs(0), 1);
    }

    private void afterErrors() {
        GateText x = new GateText();
        c.due("bad", Checks.load(x, "aag 2 0 0 1 0\n4\n"), 7);
        c.due("place", x.look(7), 2);
        c.due("good", Checks.load(x, Checks.KEPT), 0);
        c.due("error", x.look(6), 0);
        c.due("place", x.look(7), 0);
        // What an error left half read does not show in the next circuit.
        c.due("bad", Checks.load(x, "aag 9 3 0 1 2\n2\n4\n6\n8\n8 2 4\n10 2 40\n"), 6);
        c.due("good", Checks.load(x, "aag 5 1 0 1 1\n10\n6\n6 10 10\n"), 0);
        c.throwsDue("depth(8)", IllegalArgumentException.class, () -> x.depth(8));
        c.throwsDue("depth(2)", IllegalArgumentException.class, () -> x.depth(2));
        c.due("depth(6)", x.depth(6), 1);
        c.due("depth(10)", x.depth(10), 0);
    }

    /** Nothing of larger circuits shows in a smaller one that comes behind them. */
    private void afterLarger() {
        for (int second : new int[] {1, 6, 11, 10}) {
            GateText x = new GateText();
            String larger = "aag 5 2 0 2 2\n2\n10\n2\n" + second + "\n6 2 2\n8 10 11\n";
            c.due("a larger circuit", Checks.load(x, larger), 0);
            c.due("and once more", Checks.load(x, larger), 0);
            c.due("a smaller circuit", Checks.load(x, "aag 5 1 0 1 1\n2\n2\n6 2 3\n"), 0);
            c.due("outputs(0)", x.outputs(0), 0);
            c.due("outputs(1)", x.outputs(1), 1);
            c.due("gates in cones", x.look(8), 0);
            c.due("folded()", x.folded(), 0);
            c.due("alike(6, 0)", x.alike(6, 0), 1);
            c.due("as aag", Checks.written(x, false), "aag 1 1 0 1 0\n2\n2\n");
        }
    }
}
