import java.util.NoSuchElementException;

/** Boundary cases of promises 1, 2, 4 to 8, 10, 12 and 13: the arguments at and behind their limits. */
final class EdgeCallsTest {
    private static final Class<IllegalArgumentException> ARGUMENT = IllegalArgumentException.class;
    private static final Class<IllegalStateException> STATE = IllegalStateException.class;
    private static final Class<NoSuchElementException> NONE = NoSuchElementException.class;
    private static final int[] FAR = {-2, -8, -65536, Integer.MIN_VALUE, Integer.MIN_VALUE + 1,
        1 << 16, 1 << 30, Integer.MAX_VALUE - 1, Integer.MAX_VALUE};
    private final Checks c = new Checks();

    public static void main(String[] args) {
        EdgeCallsTest t = new EdgeCallsTest();
        t.c.part(t::newObject);
        t.c.part(t::feedCounts);
        t.c.part(t::feedBytes);
        t.c.part(t::feedWrong);
        t.c.part(t::feedFull);
        t.c.part(t::tapeUsedUp);
        t.c.part(t::valueLiterals);
        t.c.part(t::valueInputs);
        t.c.part(t::outputsInputs);
        t.c.part(t::outputsBits);
        t.c.part(t::literals);
        t.c.part(t::literalOrder);
        t.c.part(t::depths);
        t.c.part(t::cones);
        t.c.part(t::alikeLiterals);
        t.c.part(t::outPlaces);
        t.c.part(t::outSign);
        t.c.part(t::lookWhat);
        t.c.part(t::lookError);
        t.c.part(t::lookCones);
        t.c.part(t::manyCalls);
        t.c.end();
    }

    private void newObject() {
        c.sentence("Promise 1", "The first circuit; no error; OUT is empty");
        GateText x = new GateText();
        for (int what = 0; what <= 8; what++) {
            c.due("look(" + what + ")", x.look(what), 0);
        }
        c.throwsDue("out(0)", NONE, () -> x.out(0));
        for (int what = 0; what <= 4; what++) {
            int kind = what;
            c.throwsDue("literal(" + what + ", 0)", NONE, () -> x.literal(kind, 0));
        }
        c.due("outputs(0)", x.outputs(0), 0);
        c.throwsDue("outputs(1)", ARGUMENT, () -> x.outputs(1));
        c.due("value(0, 0)", x.value(0, 0), 0);
        c.due("value(1, 0)", x.value(1, 0), 1);
        c.throwsDue("value(2, 0)", ARGUMENT, () -> x.value(2, 0));
        c.throwsDue("depth(2)", ARGUMENT, () -> x.depth(2));
        c.due("folded()", x.folded(), 0);
        c.due("write(true)", x.write(true), 14);
        c.due("load() of an empty tape", x.load(), 1);
    }

    private void feedCounts() {
        c.sentence("Promise 2", "The n lowest bytes of v, lowest first, come behind the tape: how many it has");
        for (int n = 1; n <= 8; n++) {
            GateText x = new GateText();
            c.due("feed(" + n + ", ..)", x.feed(n, Long.MIN_VALUE), n);
            c.due("look(4)", x.look(4), n);
            c.due("feed(" + n + ", ..) again", x.feed(n, Long.MAX_VALUE), 2 * n);
            c.due("look(4)", x.look(4), 2 * n);
        }
    }

    /** That each byte of v comes where it should, the highest one too, and none that is not asked for. */
    private void feedBytes() {
        c.sentence("Promise 2", "The n lowest bytes of v, lowest first");
        String text = "aag 1 1 0 1 0\n2\n3\n";
        for (int n = 1; n <= 8; n++) {
            for (int at = 0; at + n <= text.length(); at++) {
                GateText x = new GateText();
                Checks.feedAll(x, text.substring(0, at));
                // The bytes of v behind the n lowest ones are all ones, and must not count.
                long v = -1L;
                for (int i = n - 1; i >= 0; i--) {
                    v = v << 8 | text.charAt(at + i);
                }
                c.due("feed(" + n + ", ..) behind " + at, x.feed(n, v), at + n);
                Checks.feedAll(x, text.substring(at + n));
                c.due("load()", x.load(), 0);
                c.due("circuit", Checks.written(x, false), text);
            }
        }
        // A byte above 127 stays that one: two bytes of a step, the higher one lowest in v.
        GateText x = new GateText();
        Checks.feedAll(x, Texts.lastGate(64, ""));
        x.feed(3, 0x00_01_80L);
        c.due("load()", x.load(), 0);
        c.due("literal(3, 63)", x.literal(3, 63), 0);
        GateText y = new GateText();
        Checks.feedAll(y, "aag 0 0 0 0 0\nc\n");
        y.feed(8, -1L);
        c.due("load() with bytes 255 behind the end", y.load(), 0);
    }

    private void feedWrong() {
        c.sentence("Promise 2", "Throws IllegalArgumentException when n is not 1 .. 8");
        GateText x = new GateText();
        c.throwsDue("feed(0, 0)", ARGUMENT, () -> x.feed(0, 0));
        c.throwsDue("feed(9, 0)", ARGUMENT, () -> x.feed(9, 0));
        c.throwsDue("feed(-1, 0)", ARGUMENT, () -> x.feed(-1, 0));
        for (int n : FAR) {
            c.throwsDue("feed(" + n + ", 0)", ARGUMENT, () -> x.feed(n, 0));
        }
        c.due("look(4)", x.look(4), 0);
        c.due("feed(1, 0)", x.feed(1, 0), 1);
        c.due("feed(8, 0)", x.feed(8, 0), 9);
    }

    /** More than 512 calls are needed for a full tape: nothing is promised there, but it is kept. */
    private void feedFull() {
        c.sentence("Promise 2", "IllegalStateException when it would have more than 8192");
        for (int n = 1; n <= 8; n++) {
            int count = n;
            GateText x = new GateText();
            for (int i = 0; i < 1023; i++) {
                x.feed(8, 0x0a63_0a30_2030_2030L);
            }
            for (int i = 8184; i < 8192 - n; i++) {
                x.feed(1, 0);
            }
            if (n < 8) {
                c.throwsDue("feed(" + (n + 1) + ", 0) with room for " + n, STATE, () -> x.feed(count + 1, 0));
            }
            c.due("a refused feed changes nothing", x.look(4), 8192 - n);
            c.due("feed(" + n + ", 0) with room for it", x.feed(n, 0), 8192);
            for (int more = 1; more <= 8; more++) {
                int m = more;
                c.throwsDue("feed(" + m + ", 0) with a full tape", STATE, () -> x.feed(m, 0));
            }
            c.due("look(4)", x.look(4), 8192);
            c.due("load()", x.load(), 1);
            c.due("feed(8, 0) when the tape is used up", x.feed(8, 0), 8);
        }
        fullTapeIsRead();
    }

    /** A text of 8192 bytes is as good as a short one. */
    private void fullTapeIsRead() {
        GateText x = new GateText();
        x.feed(4, 0x20_67_61_61L);
        for (int i = 0; i < 4; i++) {
            x.feed(2, 0x20_30L);
        }
        x.feed(2, 0x0a_30L);
        x.feed(2, 0x0a_63L);
        for (int i = 16; i < 8192; i += 8) {
            x.feed(8, 0x6363636363636363L);
        }
        c.due("look(4)", x.look(4), 8192);
        c.due("load() of a full tape", x.load(), 0);
        c.due("look(4) behind it", x.look(4), 0);
    }

    private void tapeUsedUp() {
        c.sentence("Promise 3", "The tape, which is used up, is read as a circuit");
        GateText x = new GateText();
        c.due("a good text", Checks.load(x, Checks.KEPT), 0);
        c.due("the tape", x.look(4), 0);
        c.due("load() once more", x.load(), 1);
        c.due("place", x.look(7), 0);
        c.due("the circuit stays", x.look(3), 3);
        c.due("a bad text", Checks.load(x, "aag 0 0 0 0 0\nx"), 5);
        c.due("the tape", x.look(4), 0);
        c.due("load() once more", x.load(), 1);
        // A shorter text behind a longer one: nothing of the longer one's end is read.
        c.due("a longer text", Checks.load(x, "aag 0 0 0 0 0\nxxxxxxxxxxxxxxxxxxxx"), 5);
        c.due("a shorter text", Checks.load(x, "aag 0 0 0 0 0\n"), 0);
        c.due("a part of a longer text", Checks.load(x, "aag 0 0"), 2);
        c.due("its place", x.look(7), 7);
    }

    private void valueLiterals() {
        c.sentence("Promise 4", "Throws IllegalArgumentException when its variable stands for nothing (and is not 0)");
        GateText x = Checks.loaded("aag 4 1 0 0 1\n8\n4 8 8\n");
        c.due("value(0, 1)", x.value(0, 1), 0);
        c.due("value(1, 1)", x.value(1, 1), 1);
        c.due("value(4, 1)", x.value(4, 1), 1);
        c.due("value(5, 1)", x.value(5, 1), 0);
        c.due("value(9, 1)", x.value(9, 1), 0);
        for (int l : new int[] {-1, 2, 3, 6, 7, 10, 11, 2000, 2001, 2002, 2003}) {
            c.throwsDue("value(" + l + ", 1)", ARGUMENT, () -> x.value(l, 1));
        }
        for (int l : FAR) {
            c.throwsDue("value(" + l + ", 1)", ARGUMENT, () -> x.value(l, 1));
        }
    }

    private void valueInputs() {
        c.sentence("Promise 4", "or x is not 0 .. 2^I - 1");
        for (int inputs = 0; inputs <= 14; inputs++) {
            GateText x = Checks.loaded(Texts.inputsAlone(true, inputs));
            int last = (1 << inputs) - 1;
            for (int k = 0; k < inputs; k++) {
                int literal = 2 * k + 2;
                c.due("value(" + literal + ", 0)", x.value(literal, 0), 0);
                c.due("value(" + literal + ", " + last + ")", x.value(literal, last), 1);
                c.due("value(" + literal + ", bit)", x.value(literal, 1 << k), 1);
                c.due("value(" + literal + ", the others)", x.value(literal, last - (1 << k)), 0);
                c.due("value(" + (literal + 1) + ", bit)", x.value(literal + 1, 1 << k), 0);
            }
            c.due("value(1, " + last + ")", x.value(1, last), 1);
            c.throwsDue("value(1, -1)", ARGUMENT, () -> x.value(1, -1));
            c.throwsDue("value(1, " + (last + 1) + ")", ARGUMENT, () -> x.value(1, last + 1));
            for (int in : FAR) {
                c.throwsDue("value(1, " + in + ")", ARGUMENT, () -> x.value(1, in));
            }
        }
    }

    private void outputsInputs() {
        c.sentence("Promise 5", "Throws IllegalArgumentException when x is not 0 .. 2^I - 1");
        for (int inputs = 0; inputs <= 14; inputs++) {
            GateText x = Checks.loaded(Texts.inputsAlone(false, inputs));
            int last = (1 << inputs) - 1;
            c.due("outputs(0)", x.outputs(0), 0);
            c.due("outputs(" + last + ")", x.outputs(last), last);
            c.throwsDue("outputs(-1)", ARGUMENT, () -> x.outputs(-1));
            c.throwsDue("outputs(" + (last + 1) + ")", ARGUMENT, () -> x.outputs(last + 1));
            for (int in : FAR) {
                c.throwsDue("outputs(" + in + ")", ARGUMENT, () -> x.outputs(in));
            }
        }
    }

    private void outputsBits() {
        c.sentence("Promise 5", "All outputs as a number: output o is bit o");
        c.due("no output", Checks.loaded("aag 1 1 0 0 0\n2\n").outputs(1), 0);
        for (int high = 0; high < 16; high++) {
            StringBuilder all = new StringBuilder("aag 1 1 0 16 0\n2\n");
            for (int o = 0; o < 16; o++) {
                all.append(o == high ? "2\n" : "0\n");
            }
            GateText x = Checks.loaded(all.toString());
            c.due("output " + high + " alone", x.outputs(1), 1 << high);
            c.due("none", x.outputs(0), 0);
        }
        c.due("all 16", Checks.loaded(Texts.outputsAlone(false, 16)).outputs(0), 65535);
    }

    private void literals() {
        c.sentence("Promise 6", "Throws NoSuchElementException when there is none, or no such what");
        GateText x = Checks.loaded("aag 9 2 0 3 4\n2\n4\n6\n7\n0\n6 2 4\n8 6 6\n10 1 0\n12 2 2\n");
        int[] counts = {2, 4, 3, 4, 4};
        for (int what = 0; what <= 4; what++) {
            int kind = what;
            int count = counts[what];
            x.literal(what, 0);
            x.literal(what, count - 1);
            c.throwsDue("literal(" + what + ", -1)", NONE, () -> x.literal(kind, -1));
            c.throwsDue("literal(" + what + ", " + count + ")", NONE, () -> x.literal(kind, count));
            for (int k : FAR) {
                c.throwsDue("literal(" + what + ", " + k + ")", NONE, () -> x.literal(kind, k));
            }
        }
        for (int k = -1; k < 3; k++) {
            int at = k;
            c.throwsDue("literal(-1, " + k + ")", NONE, () -> x.literal(-1, at));
            c.throwsDue("literal(5, " + k + ")", NONE, () -> x.literal(5, at));
            for (int what : FAR) {
                c.throwsDue("literal(" + what + ", " + k + ")", NONE, () -> x.literal(what, at));
            }
        }
        // Behind a larger circuit a smaller one has none of its literals.
        Checks.load(x, "aag 1 0 0 0 1\n2 0 0\n");
        c.throwsDue("literal(0, 0)", NONE, () -> x.literal(0, 0));
        c.throwsDue("literal(1, 1)", NONE, () -> x.literal(1, 1));
        c.throwsDue("literal(2, 0)", NONE, () -> x.literal(2, 0));
        c.throwsDue("literal(3, 1)", NONE, () -> x.literal(3, 1));
        c.throwsDue("literal(4, 1)", NONE, () -> x.literal(4, 1));
    }

    private void literalOrder() {
        c.sentence("Promise 6", "gate k's (in the order of the text) .. or the greater or lesser literal of gate k (3, 4)");
        GateText x = Checks.loaded("aag 7 2 0 2 4\n14\n2\n13\n1\n12 10 8\n10 2 15\n8 15 2\n4 3 3\n");
        int[][] due = {{14, 2}, {12, 10, 8, 4}, {13, 1}, {10, 15, 15, 3}, {8, 2, 2, 3}};
        for (int what = 0; what < due.length; what++) {
            for (int k = 0; k < due[what].length; k++) {
                c.due("literal(" + what + ", " + k + ")", x.literal(what, k), due[what][k]);
            }
        }
    }

    private void depths() {
        c.sentence("Promise 7", "Throws IllegalArgumentException when its variable stands for nothing (and is not 0)");
        GateText x = Checks.loaded("aag 5 1 0 0 2\n8\n4 8 8\n2 0 1\n");
        c.due("depth(0)", x.depth(0), 0);
        c.due("depth(1)", x.depth(1), 0);
        c.due("depth(8)", x.depth(8), 0);
        c.due("depth(9)", x.depth(9), 0);
        c.due("depth(4)", x.depth(4), 1);
        c.due("depth(3), on the way to variable 0", x.depth(3), 1);
        for (int l : new int[] {-1, 6, 7, 10, 11, 12, 13, 2001, 2002}) {
            c.throwsDue("depth(" + l + ")", ARGUMENT, () -> x.depth(l));
        }
        for (int l : FAR) {
            c.throwsDue("depth(" + l + ")", ARGUMENT, () -> x.depth(l));
        }
        c.sentence("Terms, DEPTH", "the most gates on any way from it to inputs or variable 0");
        // A long way and a short one, whichever of the two literals is the greater.
        GateText y = Checks.loaded("aag 9 1 0 0 5\n10\n4 10 10\n6 4 4\n8 6 10\n12 6 0\n2 13 10\n");
        c.due("depth(8)", y.depth(8), 3);
        c.due("depth(12)", y.depth(12), 3);
        c.due("depth(2)", y.depth(2), 4);
        c.due("depth of the last of 300", Checks.loaded("aig 300 0 0 0 300\n" + "\2\0".repeat(300)).depth(601), 300);
    }

    private void cones() {
        c.sentence("Promise 8", "How many gates its cone has. Throws as depth does");
        // Gate 3 is on several ways and counts once; 5 is in no other's cone.
        GateText x = Checks.loaded("aag 8 1 0 0 5\n2\n6 2 1\n8 6 7\n12 8 6\n10 12 8\n14 2 2\n");
        int[][] due = {{0, 0}, {1, 0}, {2, 0}, {3, 0}, {6, 1}, {8, 2}, {12, 3}, {13, 3}, {10, 4}, {14, 1}, {15, 1}};
        for (int[] one : due) {
            c.due("cone(" + one[0] + ")", x.cone(one[0]), one[1]);
        }
        for (int l : new int[] {-1, 4, 5, 16, 17, 18, 19, 2001, 2002}) {
            c.throwsDue("cone(" + l + ")", ARGUMENT, () -> x.cone(l));
        }
        for (int l : FAR) {
            c.throwsDue("cone(" + l + ")", ARGUMENT, () -> x.cone(l));
        }
        GateText most = Checks.loaded("aig 300 0 0 0 300\n" + "\2\0".repeat(300));
        c.due("cone of the last of 300", most.cone(601), 300);
        c.due("cone of the first of 300", most.cone(2), 1);
    }

    private void alikeLiterals() {
        c.sentence("Promise 10",
                "one the other's inverse (-1), or neither (0). Throws as depth does");
        GateText x = Checks.loaded("aag 5 1 0 0 1\n8\n4 8 1\n");
        c.due("alike(0, 0)", x.alike(0, 0), 1);
        c.due("alike(1, 1)", x.alike(1, 1), 1);
        c.due("alike(1, 0)", x.alike(1, 0), -1);
        c.due("alike(8, 8)", x.alike(8, 8), 1);
        c.due("alike(8, 9)", x.alike(8, 9), -1);
        c.due("alike(4, 8)", x.alike(4, 8), 1);
        c.due("alike(5, 8)", x.alike(5, 8), -1);
        c.due("alike(4, 0)", x.alike(4, 0), 0);
        c.due("alike(4, 1)", x.alike(4, 1), 0);
        for (int l : new int[] {-1, 2, 3, 6, 7, 10, 11, 12, 13, 2001, 2002}) {
            alikeThrows(x, l);
        }
        for (int l : FAR) {
            alikeThrows(x, l);
        }
    }

    private void alikeThrows(GateText x, int l) {
        c.throwsDue("alike(" + l + ", 8)", ARGUMENT, () -> x.alike(l, 8));
        c.throwsDue("alike(8, " + l + ")", ARGUMENT, () -> x.alike(8, l));
        c.throwsDue("alike(" + l + ", " + l + ")", ARGUMENT, () -> x.alike(l, l));
        c.throwsDue("alike(" + l + ", its inverse)", ARGUMENT, () -> x.alike(l, l ^ 1));
    }

    private void outPlaces() {
        c.sentence("Promise 12", "(0 behind its end). Throws NoSuchElementException when there is no byte k");
        GateText x = Checks.loaded("aag 1 1 0 1 0\n2\n3\n");
        c.throwsDue("out(0) before any write", NONE, () -> x.out(0));
        String text = "aag 1 1 0 1 0\n2\n3\n";
        c.due("write(false)", x.write(false), 18);
        for (int k = 0; k < 18; k++) {
            long eight = 0;
            for (int i = 7; i >= 0; i--) {
                eight = eight << 8 | (k + i < 18 ? text.charAt(k + i) : 0);
            }
            c.due("out(" + k + ")", x.out(k), eight);
        }
        for (int k : new int[] {-1, 18, 19, 24, 4095, 4096}) {
            c.throwsDue("out(" + k + ")", NONE, () -> x.out(k));
        }
        for (int k : FAR) {
            c.throwsDue("out(" + k + ")", NONE, () -> x.out(k));
        }
        // A shorter text behind a longer one: what stood behind its end is 0.
        Checks.load(x, "aag 0 0 0 0 0\n");
        c.due("write(true)", x.write(true), 14);
        c.due("out(13)", x.out(13), 10);
        c.due("out(10)", x.out(10), 0x0a_30_20_30L);
        c.throwsDue("out(14)", NONE, () -> x.out(14));
        c.throwsDue("out(17)", NONE, () -> x.out(17));
    }

    /** A byte above 127 at each of the eight places, the highest of the long too. */
    private void outSign() {
        c.sentence("Promise 12", "Eight bytes of OUT from k on, lowest first");
        String text = "aig 90 0 0 1 90\n180\n" + "\2\0".repeat(89) + "\1\u00b3\1";
        GateText chain = Checks.loaded(text);
        c.due("write(true)", chain.write(true), text.length());
        int at = text.indexOf('\u00b3');
        for (int i = 0; i < 8; i++) {
            c.due("out(" + (at - i) + ") at byte " + i, chain.out(at - i) >>> (8 * i) & 255, 0xb3);
        }
        c.due("out(" + (at - 7) + ")", chain.out(at - 7), 0xb3_01_00_02_00_02_00_02L);
    }

    private void lookWhat() {
        c.sentence("Promise 13", "Throws IllegalArgumentException for another what");
        GateText x = Checks.loaded(Checks.KEPT);
        c.throwsDue("look(-1)", ARGUMENT, () -> x.look(-1));
        c.throwsDue("look(9)", ARGUMENT, () -> x.look(9));
        for (int what : FAR) {
            c.throwsDue("look(" + what + ")", ARGUMENT, () -> x.look(what));
        }
        c.due("look(0)", x.look(0), 2);
        c.due("look(8)", x.look(8), 1);
    }

    private void lookError() {
        c.sentence("Promise 13", "6 the latest load's error (0 before), 7 its place (0 without one)");
        GateText x = new GateText();
        c.due("look(6) before", x.look(6), 0);
        c.due("look(7) before", x.look(7), 0);
        Checks.load(x, "aag 0 0 0 0 0\nx");
        c.due("look(6)", x.look(6), 5);
        c.due("look(7)", x.look(7), 14);
        x.feed(8, 0);
        x.write(false);
        c.due("look(6) stays until the next load", x.look(6), 5);
        c.due("look(7) stays until the next load", x.look(7), 14);
        x.load();
        c.due("look(6) of error 1", x.look(6), 1);
        c.due("look(7) of error 1", x.look(7), 0);
        Checks.load(x, "aag 0 0 0 0 0\nx");
        Checks.load(x, "aag 0 0 0 0 0\n");
        c.due("look(6) without one", x.look(6), 0);
        c.due("look(7) without one", x.look(7), 0);
    }

    private void lookCones() {
        c.sentence("Promise 13", "8 gates in cones of outputs");
        c.due("no output", Checks.loaded("aag 1 0 0 0 1\n2 1 1\n").look(8), 0);
        c.due("an output that is an input, or variable 0",
                Checks.loaded("aag 2 1 0 3 1\n2\n2\n0\n1\n4 2 2\n").look(8), 0);
        c.due("cones that share gates", Checks.loaded("aag 4 1 0 2 3\n2\n6\n9\n4 2 2\n6 4 4\n8 5 3\n").look(8), 3);
        c.due("the same output twice", Checks.loaded("aag 2 1 0 3 1\n2\n4\n4\n5\n4 2 2\n").look(8), 1);
        c.due("300 gates", Checks.loaded("aig 300 0 0 1 300\n600\n" + "\2\0".repeat(300)).look(8), 300);
    }

    /** The 512th call is as good as the first one. */
    private void manyCalls() {
        c.sentence("What it is", "An object is used for at most 512 calls after it has been made");
        GateText x = new GateText();
        for (int round = 0; round < 64; round++) {
            int own = 2 + round % 2;
            // Three calls of feed, and five more: the last round's last call is the 512th.
            Checks.feedAll(x, "aag 1 1 0 1 0\n2\n" + own + "\n");
            c.due("load()", x.load(), 0);
            c.due("outputs(0)", x.outputs(0), round % 2);
            c.due("write(false)", x.write(false), 18);
            c.due("out(16)", x.out(16), 0x0a_30 + own);
            c.due("literal(2, 0)", x.literal(2, 0), own);
        }
    }
}
