/** Boundary cases of "Terms": errors 3, 4, 6, 7 and 8, their places, and which of several is met first. */
final class EdgeErrorsTest {
    private final Checks c = new Checks();

    public static void main(String[] args) {
        EdgeErrorsTest t = new EdgeErrorsTest();
        t.c.part(t::latches);
        t.c.part(t::oddOwn);
        t.c.part(t::constantOwn);
        t.c.part(t::ownAbove);
        t.c.part(t::ownTwice);
        t.c.part(t::usedAbove);
        t.c.part(t::stepP);
        t.c.part(t::stepPBeforeQ);
        t.c.part(t::stepQ);
        t.c.part(t::formBeforeLiterals);
        t.c.part(t::literalsFromLeft);
        t.c.part(t::standsForNothing);
        t.c.part(t::leastMissing);
        t.c.part(t::dependsOnItself);
        t.c.part(t::leastLooped);
        t.c.part(t::firstMet);
        t.c.part(t::latestError);
        t.c.end();
    }

    private void latches() {
        c.sentence("Terms, ERRORS", "3 L is not 0 (whatever the others are)");
        for (String kind : new String[] {"aag ", "aig "}) {
            for (String l : new String[] {"1", "2", "10", "999999999"}) {
                c.bad(kind + "0 0 " + l + " 0 0\n", 3, 0);
                c.bad(kind + "1001 0 " + l + " 0 0\n", 3, 0);
                c.bad(kind + "0 15 " + l + " 0 0\n", 3, 0);
                c.bad(kind + "0 0 " + l + " 17 0\n", 3, 0);
                c.bad(kind + "0 0 " + l + " 0 301\n", 3, 0);
                c.bad(kind + "5 2 " + l + " 0 2\n", 3, 0);
                c.bad(kind + "0 0 " + l + " 0 0\nx", 3, 0);
                c.bad(kind + "999999999 999999999 " + l + " 999999999 999999999\n", 3, 0);
            }
            c.due("L 0", Checks.load(new GateText(), kind + "0 0 0 0 0\n"), 0);
        }
    }

    private void oddOwn() {
        c.sentence("Terms, ERRORS", "an input or a gate whose literal is odd");
        c.bad("aag 2 2 0 0 0\n2\n5\n", 6, 16);
        c.bad("aag 1 1 0 0 0\n3\n", 6, 14);
        c.bad("aag 1000 1 0 0 0\n2001\n", 6, 17);
        c.bad("aag 2 0 0 0 2\n2 0 0\n5 0 0\n", 6, 20);
        c.bad("aag 1 0 0 0 1\n3 0 0\n", 6, 14);
        c.bad("aag 1000 0 0 0 1\n2001 0 0\n", 6, 17);
    }

    private void constantOwn() {
        c.sentence("Terms, ERRORS", "0 or 1");
        for (String own : new String[] {"0", "1"}) {
            c.bad("aag 1 1 0 0 0\n" + own + "\n", 6, 14);
            c.bad("aag 2 2 0 0 0\n2\n" + own + "\n", 6, 16);
            c.bad("aag 1 0 0 0 1\n" + own + " 0 0\n", 6, 14);
            c.bad("aag 2 0 0 0 2\n4 0 0\n" + own + " 0 0\n", 6, 20);
        }
        c.good("aag 2 1 0 1 1\n2\n4\n4 2 2\n", "aag 2 1 0 1 1\n2\n4\n4 2 2\n");
    }

    private void ownAbove() {
        c.sentence("Terms, ERRORS", "above 2 * M + 1");
        c.good("aag 1 1 0 1 0\n2\n2\n", "aag 1 1 0 1 0\n2\n2\n");
        c.good("aag 1000 1 0 1 0\n2000\n2000\n", "aag 1 1 0 1 0\n2\n2\n");
        c.good("aag 1000 0 0 1 1\n2000\n2000 1 0\n", "aag 1 0 0 1 1\n2\n2 1 0\n");
        for (String own : new String[] {"4", "6", "1000", "2002", "999999998"}) {
            c.bad("aag 1 1 0 0 0\n" + own + "\n", 6, 14);
            c.bad("aag 1 0 0 0 1\n" + own + " 0 0\n", 6, 14);
        }
        c.bad("aag 1000 1 0 0 0\n2002\n", 6, 17);
        c.bad("aag 1000 0 0 0 1\n2002 0 0\n", 6, 17);
    }

    private void ownTwice() {
        c.sentence("Terms, ERRORS", "or of a variable that stands for one already");
        c.bad("aag 3 2 0 0 0\n4\n4\n", 6, 16);
        c.bad("aag 3 3 0 0 0\n6\n2\n6\n", 6, 18);
        c.bad("aag 3 1 0 0 1\n4\n4 0 0\n", 6, 16);
        c.bad("aag 3 1 0 1 1\n4\n4\n4 0 0\n", 6, 18);
        c.bad("aag 3 0 0 0 2\n4 0 0\n4 0 0\n", 6, 20);
        c.bad("aag 3 0 0 0 3\n6 0 0\n2 0 0\n6 0 0\n", 6, 26);
        c.bad("aag 1000 2 0 0 0\n2000\n2000\n", 6, 22);
        // What an output or a gate uses does not make its variable stand for anything.
        c.good("aag 2 0 0 1 2\n4\n4 2 2\n2 1 1\n", "aag 2 0 0 1 2\n4\n2 1 1\n4 2 2\n");
        // Nor does what a text before had there.
        GateText x = Checks.loaded("aag 2 1 0 0 1\n2\n4 2 2\n");
        c.due("the same variables again", Checks.load(x, "aag 2 1 0 0 1\n4\n2 4 4\n"), 0);
        c.due("with an error", Checks.load(x, "aag 2 1 0 0 1\n2\n4 2 9\n"), 6);
        c.due("and once more", Checks.load(x, "aag 2 1 0 0 1\n2\n4 2 2\n"), 0);
    }

    private void usedAbove() {
        c.sentence("Terms, ERRORS", "any other literal above 2 * M + 1");
        c.good("aag 1 1 0 2 0\n2\n3\n2\n", "aag 1 1 0 2 0\n2\n3\n2\n");
        c.bad("aag 1 1 0 1 0\n2\n4\n", 6, 16);
        c.bad("aag 1 1 0 2 0\n2\n3\n4\n", 6, 18);
        c.bad("aag 1 1 0 1 0\n2\n999999999\n", 6, 16);
        c.bad("aag 0 0 0 1 0\n2\n", 6, 14);
        c.good("aag 0 0 0 1 0\n1\n", "aag 0 0 0 1 0\n1\n");
        c.bad("aag 1000 1 0 1 0\n2000\n2002\n", 6, 22);
        c.good("aag 1000 1 0 1 0\n2000\n2001\n", "aag 1 1 0 1 0\n2\n3\n");
        c.good("aag 2 1 0 1 1\n4\n2\n2 5 5\n", "aag 2 1 0 1 1\n2\n4\n4 3 3\n");
        c.bad("aag 2 1 0 1 1\n4\n2\n2 6 5\n", 6, 20);
        c.bad("aag 2 1 0 1 1\n4\n2\n2 5 6\n", 6, 22);
        c.bad("aag 2 1 0 1 1\n4\n2\n2 5 999999999\n", 6, 22);
        // The outputs of aig too.
        c.good("aig 1 1 0 1 0\n3\n", "aag 1 1 0 1 0\n2\n3\n");
        c.bad("aig 1 1 0 1 0\n4\n", 6, 14);
        c.bad("aig 1 0 0 2 1\n3\n4\n\1\1", 6, 16);
        c.bad("aig 0 0 0 1 0\n2\n", 6, 14);
    }

    /** The last of n gates as aig; its literal is 2 * n. */
    private void lastSteps(int n, int p, int q, int error, int placeBehind) {
        String text = Texts.lastGate(n, Texts.step(p) + Texts.step(q));
        if (error == 0) {
            c.due("steps " + p + " and " + q + " of gate " + 2 * n, Checks.load(new GateText(), text), 0);
        } else {
            c.bad(text, error, Texts.lastGatePlace(n) + placeBehind);
        }
    }

    private void stepP() {
        c.sentence("Terms, ERRORS", "a step p that is 0 or above g");
        for (int n : new int[] {1, 2, 63, 64, 65, 300}) {
            int g = 2 * n;
            lastSteps(n, 0, 0, 6, 0);
            lastSteps(n, 1, 0, 0, 0);
            lastSteps(n, g - 1, 0, 0, 0);
            lastSteps(n, g, 0, 0, 0);
            lastSteps(n, g + 1, 0, 6, 0);
            lastSteps(n, 16383, 0, 6, 0);
        }
        // A gate behind inputs, and one behind another gate.
        c.good("aig 2 1 0 1 1\n4\n\4\0", "aag 2 1 0 1 1\n2\n4\n4 0 0\n");
        c.bad("aig 2 1 0 1 1\n4\n\5\0", 6, 16);
        c.bad("aig 2 0 0 0 2\n\1\1\0\0", 6, 16);
        c.bad("aig 2 0 0 0 2\n\1\1\5\0", 6, 16);
        c.bad("aig 1 0 0 0 1\n\u0080\1\0", 6, 14);
    }

    private void stepPBeforeQ() {
        c.sentence("Terms, ERRORS", "(looked at before q is read)");
        int at = Texts.lastGatePlace(70);
        for (String p : new String[] {"\0", "\u008d\1", "\u00ff\177"}) {
            for (String q : new String[] {"", "\u0080", "\u0080\0", "\u0080\u0080", "\177", "\u00ff\177"}) {
                c.bad(Texts.lastGate(70, p + q), 6, at);
            }
        }
        c.bad(Texts.lastGate(70, "\u008c\1"), 5, at + 2);
        c.bad(Texts.lastGate(70, "\1\u0080\0"), 5, at + 2);
    }

    private void stepQ() {
        c.sentence("Terms, ERRORS", "q above g - p");
        for (int n : new int[] {1, 2, 64, 65, 66, 300}) {
            int g = 2 * n;
            lastSteps(n, 1, 0, 0, 0);
            lastSteps(n, 1, g - 1, 0, 0);
            lastSteps(n, 1, g, 6, 1);
            lastSteps(n, 2, g - 2, 0, 0);
            lastSteps(n, 2, g - 1, 6, 1);
            lastSteps(n, g, 0, 0, 0);
            lastSteps(n, g, 1, 6, Texts.step(g).length());
            lastSteps(n, 1, 16383, 6, 1);
        }
        c.bad("aig 2 0 0 0 2\n\1\1\1\4", 6, 17);
    }

    private void formBeforeLiterals() {
        c.sentence("Terms, ERRORS", "(A line's form is read as a whole before its literals");
        c.bad("aag 1 1 0 0 0\n3x\n", 5, 15);
        c.bad("aag 1 1 0 0 0\n3", 5, 15);
        c.bad("aag 1 1 0 0 0\n0 \n", 5, 15);
        c.bad("aag 1 1 0 1 0\n2\n9x\n", 5, 17);
        c.bad("aag 1 1 0 1 0\n2\n9", 5, 17);
        c.bad("aag 1 0 0 0 1\n3 9 9", 5, 19);
        c.bad("aag 1 0 0 0 1\n3 9 9 \n", 5, 19);
        c.bad("aag 1 0 0 0 1\n0 x 0\n", 5, 16);
        c.bad("aag 1 0 0 0 1\n2 9 x\n", 5, 18);
        c.bad("aag 1 0 0 0 1\n0 0 01\n", 5, 19);
        c.bad("aig 1 1 0 1 0\n9x", 5, 15);
        // But a line before that has been read as a whole, with its literals.
        c.bad("aag 2 2 0 0 0\n3\nx\n", 6, 14);
        c.bad("aag 2 1 0 1 0\n3\nx\n", 6, 14);
        c.bad("aag 2 0 0 1 1\n6\nx\n", 6, 14);
        c.bad("aag 2 0 0 0 2\n2 0 6\nx", 6, 18);
        c.bad("aag 1 0 0 0 1\n2 0 4\nx", 6, 18);
        c.bad("aig 1 0 0 1 1\n4\n", 6, 14);
    }

    private void literalsFromLeft() {
        c.sentence("Terms, ERRORS", "from left to right.)");
        c.bad("aag 1 0 0 0 1\n3 9 9\n", 6, 14);
        c.bad("aag 1 0 0 0 1\n0 9 0\n", 6, 14);
        c.bad("aag 1 0 0 0 1\n4 0 9\n", 6, 14);
        c.bad("aag 1 0 0 0 1\n2 8 9\n", 6, 16);
        c.bad("aag 1 0 0 0 1\n2 0 9\n", 6, 18);
        c.bad("aag 12 0 0 0 1\n24 100 200\n", 6, 18);
        c.bad("aag 12 0 0 0 1\n24 10 200\n", 6, 21);
    }

    private void standsForNothing() {
        c.sentence("Terms, ERRORS", "7 an output or a gate uses a variable that stands for nothing");
        for (String used : new String[] {"4", "5"}) {
            c.bad("aag 2 1 0 1 0\n2\n" + used + "\n", 7, 2);
            c.bad("aag 3 1 0 0 1\n2\n6 " + used + " 2\n", 7, 2);
            c.bad("aag 3 1 0 0 1\n2\n6 2 " + used + "\n", 7, 2);
            // In the cone of an output, or in none.
            c.bad("aag 3 1 0 1 1\n2\n2\n6 2 " + used + "\n", 7, 2);
            c.bad("aag 3 1 0 1 1\n2\n6\n6 " + used + " 2\n", 7, 2);
        }
        c.bad("aag 1000 1 0 1 0\n2\n2001\n", 7, 1000);
        c.bad("aag 1 0 0 1 0\n2\n", 7, 1);
        // Variable 0 stands for nothing either, but is always 0.
        c.good("aag 2 1 0 2 1\n2\n0\n1\n4 0 1\n", "aag 1 1 0 2 0\n2\n0\n1\n");
        // One that no one uses does no harm.
        c.good("aag 9 1 0 1 1\n18\n2\n2 18 18\n", "aag 2 1 0 1 1\n2\n4\n4 2 2\n");
        // One that stands for something in the circuit before does not in this one.
        GateText x = Checks.loaded("aag 2 2 0 0 0\n2\n4\n");
        c.due("load()", Checks.load(x, "aag 2 1 0 1 0\n2\n4\n"), 7);
        c.due("place", x.look(7), 2);
    }

    private void leastMissing() {
        c.sentence("Terms, ERRORS", "(place: the least such variable)");
        c.bad("aag 9 0 0 3 0\n18\n5\n12\n", 7, 2);
        c.bad("aag 9 0 0 3 0\n5\n18\n12\n", 7, 2);
        c.bad("aag 9 0 0 3 0\n18\n12\n4\n", 7, 2);
        c.bad("aag 9 0 0 1 1\n18\n2 16 14\n", 7, 7);
        c.bad("aag 9 0 0 1 1\n18\n2 14 16\n", 7, 7);
        c.bad("aag 9 0 0 1 1\n12\n2 14 16\n", 7, 6);
        c.bad("aag 9 0 0 0 2\n2 14 16\n4 1 11\n", 7, 5);
        c.bad("aag 9 0 0 0 2\n2 1 11\n4 14 16\n", 7, 5);
        c.bad("aag 1000 0 0 2 0\n2000\n1999\n", 7, 999);
    }

    private void dependsOnItself() {
        c.sentence("Terms, ERRORS", "8 a gate depends on itself");
        c.bad("aag 1 0 0 0 1\n2 2 1\n", 8, 1);
        c.bad("aag 1 0 0 0 1\n2 1 3\n", 8, 1);
        c.bad("aag 1 0 0 0 1\n2 0 2\n", 8, 1);
        c.bad("aag 1 0 0 0 1\n2 2 3\n", 8, 1);
        c.bad("aag 2 0 0 0 2\n2 4 1\n4 1 3\n", 8, 1);
        c.bad("aag 3 1 0 1 2\n2\n2\n4 6 2\n6 4 2\n", 8, 2);
        c.bad(ring(300), 8, 1);
        // Much that meets again, but no loop.
        c.good("aag 4 1 0 1 3\n2\n8\n8 6 4\n6 4 4\n4 2 2\n", "aag 4 1 0 1 3\n2\n8\n4 2 2\n6 4 4\n8 6 4\n");
    }

    /** Gates 1 to n, each of which needs the next one, and the last one the first. */
    private static String ring(int n) {
        StringBuilder all = new StringBuilder(Texts.firstLine(false, n, 0, 0, n));
        for (int v = 1; v <= n; v++) {
            all.append(2 * v).append(' ').append(2 * (v % n + 1)).append(" 1\n");
        }
        return all.toString();
    }

    private void leastLooped() {
        c.sentence("Terms, ERRORS", "(place: the least variable of those)");
        // Gate 1 only needs the loop of 2 and 3; gate 4 is a loop of its own.
        c.bad("aag 4 0 0 0 4\n2 4 1\n4 6 1\n6 4 1\n8 8 8\n", 8, 2);
        c.bad("aag 4 0 0 0 4\n8 8 8\n6 4 1\n4 6 1\n2 4 1\n", 8, 2);
        // Gate 1 is only needed by the loop.
        c.bad("aag 3 0 0 0 3\n2 1 1\n4 6 2\n6 4 2\n", 8, 2);
        // Gate 2 lies between the loops of gate 3 and of gate 4.
        c.bad("aag 4 0 0 0 4\n2 1 1\n4 6 2\n6 6 1\n8 8 4\n", 8, 3);
        // Two loops that share gate 5.
        c.bad("aag 5 0 0 0 5\n2 1 1\n4 1 1\n6 10 2\n8 10 4\n10 6 8\n", 8, 3);
        c.bad("aag 1000 0 0 0 2\n2000 1999 1\n1998 2000 1\n", 8, 999);
        // Gates 1, 3 and 2 lead into the loop of gate 4: what gate 1 needs says nothing of gate 2.
        c.bad("aag 4 0 0 0 4\n2 8 6\n4 8 8\n6 4 4\n8 8 8\n", 8, 4);
    }

    private void firstMet() {
        c.sentence("Terms, ERRORS", "ERRORS, the first that is met when the text is read from its beginning");
        c.bad("aah x", 1, 0);
        c.bad("aag 0 0 1 17 x\n", 2, 13);
        c.bad("aag 1001 0 0 0", 2, 14);
        c.bad("aag 1001 15 1 17 301\n", 3, 0);
        c.bad("aag 1001 0 0 0 0\nx", 4, 0);
        c.bad("aag 1 1 0 1 0\nx\n9\n", 5, 14);
        c.bad("aag 1 1 0 1 0\n3\nx\n", 6, 14);
        // 7 and 8 are met behind the text's end: a bad end, or a bad line far behind, comes first.
        c.bad("aag 2 1 0 1 0\n2\n4\nx", 5, 18);
        c.bad("aag 2 1 0 1 0\n2\n4\nc", 5, 19);
        c.bad("aag 2 0 0 1 1\n4\n2 0 9\n", 6, 20);
        c.bad("aag 1 0 0 0 1\n2 2 2\nx", 5, 20);
        c.bad("aag 2 0 0 0 2\n2 2 2\n4 0 9\n", 6, 24);
        c.bad("aag 2 1 0 1 0\n2\n4\nc\n", 7, 2);
        c.bad("aag 1 0 0 0 1\n2 2 2\nc\n", 8, 1);
        // 7 before 8, whichever variable is less.
        c.bad("aag 3 0 0 0 1\n2 2 6\n", 7, 3);
        c.bad("aag 3 0 0 1 1\n4\n2 2 2\n", 7, 2);
        c.bad("aag 3 0 0 1 1\n2\n6 6 6\n", 7, 1);
    }

    private void latestError() {
        c.sentence("Promise 3", "0; or its error, and the circuit stays");
        GateText x = new GateText();
        String[] texts = {"", "aag x", "aag 0 0 1 0 0\n", "aag 0 1 0 0 0\n", "aag 0 0 0 0 0\nx", "aag 0 0 0 1 0\n2\n",
            "aag 3 0 0 1 0\n6\n", "aag 2 0 0 0 1\n4 4 4\n", Checks.KEPT};
        int[] errors = {1, 2, 3, 4, 5, 6, 7, 8, 0};
        int[] places = {0, 4, 0, 0, 14, 14, 3, 2, 0};
        for (int round = 0; round < 2; round++) {
            for (int i = 0; i < texts.length; i++) {
                c.due("load of " + Checks.shown(texts[i]), Checks.load(x, texts[i]), errors[i]);
                c.due("look(6)", x.look(6), errors[i]);
                c.due("look(7)", x.look(7), places[i]);
                c.due("look(4)", x.look(4), 0);
                c.due("look(3)", x.look(3), round == 1 || i == 8 ? 3 : 0);
                c.due("outputs(0)", x.outputs(0), 0);
            }
        }
    }
}
