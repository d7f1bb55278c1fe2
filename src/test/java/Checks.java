import java.nio.charset.StandardCharsets;
import java.util.function.LongSupplier;

/** What every test uses: answers against those that are due, and texts to and from a GateText. */
final class Checks {
    /** A circuit that is there before a text with an error is read. */
    static final String KEPT = "aag 3 2 0 1 1\n2\n4\n6\n6 4 2\n";

    private static final int MOST_TOLD = 20;

    private int made;
    private int wrong;
    private String sentence = "";
    private int madeBefore;
    private int toldOfSentence;

    /** What follows tests this sentence of the document; a sentence that nothing tests is wrong. */
    void sentence(String where, String quote) {
        endSentence();
        sentence = where + ": " + quote;
        madeBefore = made;
        toldOfSentence = 0;
    }

    private void endSentence() {
        if (!sentence.isEmpty() && made == madeBefore) {
            tellWrong("nothing was tested");
        }
    }

    /** One part of a test: what it throws is wrong too, and does not hide the parts behind it. */
    void part(Runnable part) {
        try {
            part.run();
        } catch (RuntimeException | AssertionError e) {
            tellWrong("was ended by " + e);
        }
    }

    void due(String what, long got, long want) {
        made++;
        if (got != want) {
            tellWrong(what + " answered " + got + ", due is " + want);
        }
    }

    void due(String what, String got, String want) {
        made++;
        if (!got.equals(want)) {
            tellWrong(what + " answered " + shown(got) + ", due is " + shown(want));
        }
    }

    /** A call that has to throw just this class, not one below it. */
    void throwsDue(String what, Class<? extends RuntimeException> want, LongSupplier call) {
        made++;
        try {
            tellWrong(what + " answered " + call.getAsLong() + ", due is " + want.getSimpleName());
        } catch (RuntimeException e) {
            if (e.getClass() != want) {
                tellWrong(what + " threw " + e + ", due is " + want.getSimpleName());
            }
        }
    }

    private void tellWrong(String text) {
        wrong++;
        toldOfSentence++;
        if (toldOfSentence <= MOST_TOLD) {
            System.out.println("  " + (sentence.isEmpty() ? "" : "[" + sentence + "] ") + text);
        }
    }

    /** Ends the test: exit code 1 if any answer was not as due. */
    void end() {
        endSentence();
        System.out.println("  " + made + " checks, " + wrong + " wrong");
        if (wrong != 0 || made == 0) {
            System.exit(1);
        }
    }

    /** A text that is read without an error, and what is written of its circuit. */
    void good(String text, String asDecimal) {
        GateText x = new GateText();
        due("load of " + shown(text), load(x, text), 0);
        due("error of " + shown(text), x.look(6), 0);
        due("place in " + shown(text), x.look(7), 0);
        due("tape behind " + shown(text), x.look(4), 0);
        due("circuit of " + shown(text), written(x, false), asDecimal);
    }

    /** A text that has an error: which, where, and that the circuit stays. */
    void bad(String text, int error, int place) {
        GateText x = loaded(KEPT);
        due("load of " + shown(text), load(x, text), error);
        due("error of " + shown(text), x.look(6), error);
        due("place in " + shown(text), x.look(7), place);
        due("tape behind " + shown(text), x.look(4), 0);
        due("the circuit stays: M", x.look(3), 3);
        due("the circuit stays: cones", x.look(8), 1);
        due("the circuit stays: outputs", x.outputs(3) * 10 + x.outputs(1), 10);
        due("the circuit stays", written(x, false), KEPT);
    }

    static byte[] bytes(String text) {
        return text.getBytes(StandardCharsets.ISO_8859_1);
    }

    static void feedAll(GateText x, String text) {
        byte[] all = bytes(text);
        for (int from = 0; from < all.length; from += 8) {
            int n = Math.min(8, all.length - from);
            long v = 0;
            for (int i = 0; i < n; i++) {
                v |= (all[from + i] & 255L) << (8 * i);
            }
            x.feed(n, v);
        }
    }

    static int load(GateText x, String text) {
        feedAll(x, text);
        return x.load();
    }

    static GateText loaded(String text) {
        GateText x = new GateText();
        int error = load(x, text);
        if (error != 0) {
            throw new AssertionError("error " + error + " at " + x.look(7) + " in " + shown(text));
        }
        return x;
    }

    static String outText(GateText x) {
        StringBuilder all = new StringBuilder();
        int size = x.look(5);
        for (int k = 0; k < size; k += 8) {
            long eight = x.out(k);
            for (int i = 0; i < 8 && k + i < size; i++) {
                all.append((char) (eight >>> (8 * i) & 255));
            }
        }
        return all.toString();
    }

    static String written(GateText x, boolean binary) {
        x.write(binary);
        return outText(x);
    }

    static String shown(String text) {
        StringBuilder all = new StringBuilder("\"");
        for (char c : text.toCharArray()) {
            if (c == '\n') {
                all.append("\\n");
            } else if (c < 32 || c > 126) {
                all.append(String.format("\\x%02x", (int) c));
            } else {
                all.append(c);
            }
        }
        return all.append('"').toString();
    }
}
