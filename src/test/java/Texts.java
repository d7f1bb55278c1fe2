/** Texts that the tests of boundary cases are made from. */
final class Texts {
    private Texts() {
    }

    /** A step, in one byte or in two. */
    static String step(int s) {
        return s < 128 ? "" + (char) s : "" + (char) (128 + s % 128) + (char) (s / 128);
    }

    static String firstLine(boolean binary, int variables, int inputs, int outputs, int gates) {
        return (binary ? "aig " : "aag ") + variables + " " + inputs + " 0 " + outputs + " " + gates + "\n";
    }

    /** Inputs alone, variables 1 to n; each is an output too, as far as there may be so many. */
    static String inputsAlone(boolean binary, int n) {
        StringBuilder all = new StringBuilder(firstLine(binary, n, n, n, 0));
        for (int kind = binary ? 1 : 0; kind < 2; kind++) {
            for (int v = 1; v <= n; v++) {
                all.append(2 * v).append('\n');
            }
        }
        return all.toString();
    }

    /** Gates alone, variables 1 to n, each the AND of 1 and 1; the last one is the output. */
    static String gatesAlone(boolean binary, int n) {
        StringBuilder all = new StringBuilder(firstLine(binary, n, 0, 1, n));
        all.append(2 * n).append('\n');
        for (int v = 1; v <= n; v++) {
            all.append(binary ? step(2 * v - 1) + step(0) : 2 * v + " 1 1\n");
        }
        return all.toString();
    }

    /** Outputs alone, 1 each. */
    static String outputsAlone(boolean binary, int n) {
        return firstLine(binary, 0, 0, n, 0) + "1\n".repeat(n);
    }

    /** Gates 1 to n as aig, of which the last one has the steps given; all others have 1 and 1. */
    static String lastGate(int n, String steps) {
        return firstLine(true, n, 0, 1, n) + 2 * n + "\n" + "\1\1".repeat(n - 1) + steps;
    }

    /** Where the steps of the last gate begin in such a text. */
    static int lastGatePlace(int n) {
        return lastGate(n, "").length();
    }
}
