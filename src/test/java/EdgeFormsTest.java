import java.util.ArrayList;
import java.util.List;
import java.util.regex.Matcher;
import java.util.regex.Pattern;

/** Boundary cases of "Terms": numbers, lines, the two kinds, steps, ends; errors 1, 2 and 5. */
final class EdgeFormsTest {
    // Every kind of line that there is; the gates' steps are 2 and 4, 1 and 3.
    private static final String DECIMAL = "aag 13 2 0 1 2\n24\n20\n10\n10 24 21\n26 10 11\n";
    private static final String BINARY = "aig 4 2 0 1 2\n9\n\2\4\1\3";
    private static final String NO_GATES = "aig 11 11 0 2 0\n22\n10\n";
    private static final String[] ALL = {DECIMAL, BINARY, NO_GATES};
    private final Checks c = new Checks();

    public static void main(String[] args) {
        EdgeFormsTest t = new EdgeFormsTest();
        t.c.part(t::baseTexts);
        t.c.part(t::firstFour);
        t.c.part(t::cutFirstLine);
        t.c.part(t::cutBehind);
        t.c.part(t::digits);
        t.c.part(t::firstDigit);
        t.c.part(t::noNumber);
        t.c.part(t::wrongBytes);
        t.c.part(t::blanks);
        t.c.part(t::lineEnds);
        t.c.part(t::linesAtAnyPlace);
        t.c.part(t::gatesInAnyOrder);
        t.c.part(t::binaryVariables);
        t.c.part(t::oneByteSteps);
        t.c.part(t::twoByteSteps);
        t.c.part(t::secondBytes);
        t.c.part(t::ends);
        t.c.part(t::behindTheEnd);
        t.c.part(t::stepsThatLookLikeEnds);
        t.c.end();
    }

    /** A number, blank or line's end of a text's lines: where it begins and ends. */
    private static List<int[]> places(String text, String pattern) {
        List<int[]> all = new ArrayList<>();
        int lines = text.startsWith("aig") ? text.indexOf('\n', text.indexOf('\n') + 1) + 1 : text.length();
        lines = text.equals(NO_GATES) ? text.length() : lines;
        Matcher m = Pattern.compile(pattern).matcher(text.substring(0, lines));
        while (m.find()) {
            if (m.start() >= 4) {
                all.add(new int[] {m.start(), m.end()});
            }
        }
        return all;
    }

    private static String with(String text, int[] at, String instead) {
        return text.substring(0, at[0]) + instead + text.substring(at[1]);
    }

    /** 2 within the first line, its end too; 5 behind it. */
    private static int formError(String text, int place) {
        return place <= text.indexOf('\n') ? 2 : 5;
    }

    private void baseTexts() {
        c.sentence("Terms, aag and aig", "then I lines of one number .. O lines .. A lines of three numbers");
        c.good(DECIMAL, "aag 3 2 0 1 1\n2\n4\n6\n6 5 2\n");
        c.good(BINARY, "aag 4 2 0 1 2\n2\n4\n9\n6 4 0\n8 7 4\n");
        c.due("a circuit of inputs alone", Checks.loaded(NO_GATES).outputs(1 << 10), 1);
    }

    private void firstFour() {
        c.sentence("Terms, ERRORS", "1 the first four bytes (place 0)");
        c.bad("", 1, 0);
        for (String text : ALL) {
            for (int k = 0; k < 4; k++) {
                c.bad(text.substring(0, k), 1, 0);
                for (int b = 0; b < 256; b++) {
                    boolean otherKind = k == 1 && (b == 'a' || b == 'i');
                    if (b != text.charAt(k) && !otherKind) {
                        c.bad(with(text, new int[] {k, k + 1}, "" + (char) b), 1, 0);
                    }
                }
            }
        }
    }

    private void cutFirstLine() {
        c.sentence("Terms, ERRORS", "2 the rest of the first line is none .. or how many bytes there are");
        for (String text : ALL) {
            for (int k = 4; k <= text.indexOf('\n'); k++) {
                c.bad(text.substring(0, k), 2, k);
            }
        }
    }

    private void cutBehind() {
        c.sentence("Terms, ERRORS", "5 a line, step or end that is none (the place as with 2)");
        for (String text : ALL) {
            for (int k = text.indexOf('\n') + 1; k < text.length(); k++) {
                c.bad(text.substring(0, k), 5, k);
            }
            c.bad(text + "c", 5, text.length() + 1);
        }
    }

    private void digits() {
        c.sentence("Terms, NUMBER", "decimal digits, 9 at most");
        for (String text : ALL) {
            for (int[] at : places(text, "[0-9]+")) {
                int error = formError(text, at[0]);
                c.bad(with(text, at, "1000000000"), error, at[0] + 9);
                c.bad(with(text, at, "9999999999"), error, at[0] + 9);
                c.bad(with(text, at, "12345678901234567890"), error, at[0] + 9);
                // Of nine digits it is a number, only too large a one.
                boolean latches = error == 2 && text.substring(4, at[0]).chars().filter(b -> b == ' ').count() == 2;
                int errorOfNine = error == 5 ? 6 : latches ? 3 : 4;
                int placeOfNine = error == 5 ? at[0] : 0;
                c.bad(with(text, at, "100000000"), errorOfNine, placeOfNine);
                c.bad(with(text, at, "999999999"), errorOfNine, placeOfNine);
            }
        }
    }

    private void firstDigit() {
        c.sentence("Terms, NUMBER", "the first not 0 unless it is the only one");
        for (String text : ALL) {
            for (int[] at : places(text, "[0-9]+")) {
                String number = text.substring(at[0], at[1]);
                c.bad(with(text, at, "0" + number), formError(text, at[0]), at[0] + 1);
                c.bad(with(text, at, "00"), formError(text, at[0]), at[0] + 1);
                c.bad(with(text, at, "000000000"), formError(text, at[0]), at[0] + 1);
            }
        }
        c.good("aag 0 0 0 1 0\n0\n", "aag 0 0 0 1 0\n0\n");
        c.good("aag 1 0 0 1 1\n2\n2 0 0\n", "aag 1 0 0 1 1\n2\n2 0 0\n");
    }

    private void noNumber() {
        c.sentence("Terms", "A LINE: numbers");
        for (String text : ALL) {
            for (int[] at : places(text, "[0-9]+")) {
                int error = formError(text, at[0]);
                c.bad(with(text, at, ""), error, at[0]);
                c.bad(with(text, at, "-1"), error, at[0]);
                c.bad(with(text, at, "+1"), error, at[0]);
                c.bad(with(text, at, "x"), error, at[0]);
            }
        }
        // A line that has a number too few, or one too many.
        c.bad("aag 0 0 0 0\n", 2, 11);
        c.bad("aag 0 0 0 0 0 0\n", 2, 13);
        c.bad("aag 1 1 0 0 0\n2 2\n", 5, 15);
        c.bad("aag 1 1 0 1 0\n2\n2 2\n", 5, 17);
        c.bad("aag 1 0 0 0 1\n2 0\n", 5, 17);
        c.bad("aag 1 0 0 0 1\n2 0 0 0\n", 5, 19);
    }

    /** The first byte with which no such line goes on, for every byte that there is. */
    private void wrongBytes() {
        c.sentence("Terms, ERRORS", "the first byte with which no such line goes on");
        for (int b = 0; b < 256; b++) {
            boolean digit = b >= '0' && b <= '9';
            char one = (char) b;
            if (!digit) {
                c.bad("aag " + one + " 0 0 0 0\n", 2, 4);
                c.bad("aag 1 1 0 0 0\n" + one + "\n", 5, 14);
                c.bad("aig 0 0 0 0 " + one + "\n", 2, 12);
            }
            if (!digit && b != ' ') {
                c.bad("aag 1" + one + " 0 0 0 0\n", 2, 5);
                c.bad("aag 1 0 0 0 1\n2" + one + "0 0\n", 5, 15);
            }
            if (!digit && b != '\n') {
                c.bad("aag 0 0 0 0 1" + one, 2, 13);
                c.bad("aag 1 0 0 0 1\n2 0 1" + one, 5, 19);
                c.bad("aig 1 1 0 1 0\n2" + one, 5, 15);
            }
        }
    }

    private void blanks() {
        c.sentence("Terms, LINE", "one blank (32) between");
        for (String text : ALL) {
            for (int[] at : places(text, " ")) {
                int error = formError(text, at[0]);
                c.bad(with(text, at, "  "), error, at[0] + 1);
                c.bad(with(text, at, "\t"), error, at[0]);
                c.bad(with(text, at, "\n"), error, at[0]);
                c.bad(with(text, at, "\0"), error, at[0]);
                c.bad(with(text, at, "\u00a0"), error, at[0]);
            }
            for (int[] at : places(text, "\n")) {
                c.bad(with(text, at, " \n"), formError(text, at[0]), at[0]);
            }
        }
        c.bad("aag  0 0 0 0 0\n", 2, 4);
        c.bad("aag 1 1 0 0 0\n 2\n", 5, 14);
        c.bad("aag 1 0 0 0 1\n 2 0 0\n", 5, 14);
    }

    private void lineEnds() {
        c.sentence("Terms, LINE", "and a line's end (10)");
        for (String text : ALL) {
            for (int[] at : places(text, "\n")) {
                int error = formError(text, at[0]);
                c.bad(with(text, at, "\r\n"), error, at[0]);
                c.bad(with(text, at, "\r"), error, at[0]);
                c.bad(with(text, at, " "), error, at[0]);
                c.bad(with(text, at, "\0"), error, at[0]);
            }
        }
        // A line's end too many stands where the next line, step or end should.
        for (int[] at : places(DECIMAL, "\n")) {
            c.bad(with(DECIMAL, at, "\n\n"), 5, at[0] + 1);
        }
        c.bad("aag 0 0 0 0 0\n\n", 5, 14);
        c.bad("aig 0 0 0 0 0\n\n", 5, 14);
    }

    /** What stands where eight bytes of the tape meet is read as well as elsewhere. */
    private void linesAtAnyPlace() {
        c.sentence("Terms", "A TEXT is a row of bytes");
        for (String text : ALL) {
            for (int n = 1; n <= 8; n++) {
                GateText x = new GateText();
                byte[] all = Checks.bytes(text);
                for (int from = 0; from < all.length; from += n) {
                    long v = -1L;
                    int count = Math.min(n, all.length - from);
                    for (int i = count - 1; i >= 0; i--) {
                        v = v << 8 | all[from + i] & 255;
                    }
                    c.due("feed(" + count + ", ..)", x.feed(count, v), from + count);
                }
                c.due("load() of what was fed by " + n, x.load(), 0);
                c.due("circuit", Checks.written(x, true), Checks.written(Checks.loaded(text), true));
            }
        }
    }

    private void gatesInAnyOrder() {
        c.sentence("Terms, aag", "Gates may come in any order");
        String[] lines = {"4 2 2\n", "6 4 3\n", "8 6 5\n"};
        int[][] orders = {{0, 1, 2}, {0, 2, 1}, {1, 0, 2}, {1, 2, 0}, {2, 0, 1}, {2, 1, 0}};
        for (int[] o : orders) {
            String text = "aag 4 1 0 1 3\n2\n8\n" + lines[o[0]] + lines[o[1]] + lines[o[2]];
            c.good(text, "aag 4 1 0 1 3\n2\n8\n4 2 2\n6 4 3\n8 6 5\n");
            GateText x = Checks.loaded(text);
            for (int k = 0; k < 3; k++) {
                c.due("literal(1, " + k + ")", x.literal(1, k), 4 + 2 * o[k]);
            }
        }
    }

    private void binaryVariables() {
        c.sentence("Terms, aig", "input k (from 0 on) is variable k + 1, gate k variable I + 1 + k");
        GateText x = Checks.loaded("aig 5 3 0 0 2\n\1\1\1\1");
        for (int k = 0; k < 3; k++) {
            c.due("literal(0, " + k + ")", x.literal(0, k), 2 * (k + 1));
        }
        for (int k = 0; k < 2; k++) {
            c.due("literal(1, " + k + ")", x.literal(1, k), 2 * (3 + 1 + k));
        }
        c.due("no input: gate 0", Checks.loaded("aig 1 0 0 0 1\n\1\1").literal(1, 0), 2);
        c.due("no gate: input 0", Checks.loaded("aig 1 1 0 0 0\n").literal(0, 0), 2);
    }

    private void oneByteSteps() {
        c.sentence("Terms, aig", "A step is one byte below 128");
        for (int p = 1; p < 128; p++) {
            steps(300, p, "" + (char) p, p % 5, "" + (char) (p % 5));
            steps(300, 5, "\5", p, "" + (char) p);
        }
        steps(64, 127, "\177", 0, "\0");
        steps(300, 9, "\11", 0, "\0");
    }

    private void twoByteSteps() {
        c.sentence("Terms, aig", "or two: the first one less 128, and 128 times the second one");
        for (int s : new int[] {128, 129, 254, 255, 256, 257, 383, 384, 511, 512, 598, 599}) {
            String two = (char) (128 + s % 128) + "" + (char) (s / 128);
            steps(300, s, two, 0, "\0");
            steps(300, 1, "\1", s, two);
        }
        steps(300, 600, "\u00d8\4", 0, "\0");
        steps(300, 200, "\u00c8\1", 400, "\u0090\3");
    }

    /** The last of n gates has these steps, p and q. */
    private void steps(int n, int p, String asP, int q, String asQ) {
        GateText x = new GateText();
        c.due("load with steps " + p + " and " + q, Checks.load(x, Texts.lastGate(n, asP + asQ)), 0);
        c.due("greater for steps " + p + " and " + q, x.literal(3, n - 1), 2 * n - p);
        c.due("lesser for steps " + p + " and " + q, x.literal(4, n - 1), 2 * n - p - q);
    }

    private void secondBytes() {
        c.sentence("Terms, aig", "the second one (1 to 127)");
        int at = Texts.lastGatePlace(64);
        for (int b = 0; b < 256; b++) {
            String two = "\u0080" + (char) b;
            if (b == 0 || b > 127) {
                c.bad(Texts.lastGate(64, two + "\0"), 5, at + 1);
                c.bad(Texts.lastGate(64, "\1" + two), 5, at + 2);
            } else if (b == 1) {
                steps(64, 128, two, 0, "\0");
            } else {
                // A step that can be read, but of a literal that cannot be.
                c.bad(Texts.lastGate(64, two + "\0"), 6, at);
                c.bad(Texts.lastGate(64, "\1" + two), 6, at + 1);
            }
        }
        c.bad(Texts.lastGate(64, "\u0080"), 5, at + 1);
        c.bad(Texts.lastGate(64, "\1\u00ff"), 5, at + 2);
        c.bad(Texts.lastGate(64, ""), 5, at);
        c.bad(Texts.lastGate(64, "\1"), 5, at + 1);
        c.bad(Texts.lastGate(64, "\u00ff\177\0"), 6, at);
    }

    private void ends() {
        c.sentence("Terms, aag and aig", "Then the text ends, or there is c (99) and a line's end");
        for (String text : ALL) {
            int size = text.length();
            c.due("the text ends", Checks.load(new GateText(), text), 0);
            c.due("c and a line's end", Checks.load(new GateText(), text + "c\n"), 0);
            c.bad(text + "c", 5, size + 1);
            for (int b = 0; b < 256; b++) {
                if (b != 'c') {
                    c.bad(text + (char) b, 5, size);
                    c.bad(text + (char) b + "\n", 5, size);
                }
                if (b != '\n') {
                    c.bad(text + "c" + (char) b, 5, size + 1);
                }
            }
        }
    }

    private void behindTheEnd() {
        c.sentence("Terms, aag and aig", "whatever stands behind that counts for nothing");
        StringBuilder every = new StringBuilder();
        for (int b = 0; b < 256; b++) {
            every.append((char) b);
        }
        for (String text : ALL) {
            String plain = Checks.written(Checks.loaded(text), true);
            for (String rest : new String[] {"\n", "c", "c\n", "x", "\0", "\u00ff", DECIMAL, BINARY, every.toString()}) {
                GateText x = new GateText();
                c.due("with " + Checks.shown(rest) + " behind", Checks.load(x, text + "c\n" + rest), 0);
                c.due("place", x.look(7), 0);
                c.due("the tape is used up", x.look(4), 0);
                c.due("circuit", Checks.written(x, true), plain);
            }
        }
    }

    /** Steps are bytes: a c, a line's end or a blank among them ends nothing. */
    private void stepsThatLookLikeEnds() {
        c.sentence("Terms, aig", "then for each gate, whose literal is g, two STEPS p and q");
        steps(60, 99, "c", 10, "\n");
        steps(60, 32, " ", 10, "\n");
        steps(60, 10, "\n", 99, "c");
        steps(60, 48, "0", 57, "9");
        GateText x = new GateText();
        c.due("a c behind a step c", Checks.load(x, Texts.lastGate(60, "c\nc\n")), 0);
        c.due("greater", x.literal(3, 59), 21);
        c.bad(Texts.lastGate(60, "c"), 5, Texts.lastGatePlace(60) + 1);
        c.bad(Texts.lastGate(60, "c\nc"), 5, Texts.lastGatePlace(60) + 3);
    }
}
