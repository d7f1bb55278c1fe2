import java.util.NoSuchElementException;

/** Promises 11 and 12: write and out. */
final class WriteTest {
    private static final Class<NoSuchElementException> NONE = NoSuchElementException.class;
    private final Checks c = new Checks();

    public static void main(String[] args) {
        WriteTest t = new WriteTest();
        t.order();
        t.nothingFolded();
        t.steps();
        t.longest();
        t.outBytes();
        t.outStays();
        t.c.end();
    }

    private void written(String text, String decimal, String binary) {
        GateText x = Checks.loaded(text);
        c.due("write(false)", x.write(false), decimal.length());
        c.due("look(5)", x.look(5), decimal.length());
        c.due("as aag", Checks.outText(x), decimal);
        c.due("write(true)", x.write(true), binary.length());
        c.due("look(5)", x.look(5), binary.length());
        c.due("as aig", Checks.outText(x), binary);
        c.due("aig read again", Checks.written(Checks.loaded(binary), false), decimal);
        c.due("aag read again", Checks.written(Checks.loaded(decimal), true), binary);
    }

    private void order() {
        // By depth, then by variable, not by the text: 7 and 8 before 3; 9 is in no output's cone.
        written("aag 9 2 0 2 4\n4\n2\n6\n17\n18 2 4\n6 15 17\n16 3 5\n14 4 2\n",
                "aag 5 2 0 2 3\n2\n4\n10\n9\n6 4 2\n8 5 3\n10 9 7\n",
                "aig 5 2 0 2 3\n10\n9\n\2\2\3\2\1\2");
        // The greater literal is that of the new numbers: 4 is variable 8 above, and 2 variable 9.
        written("aag 9 2 0 1 1\n18\n16\n4\n4 18 17\n",
                "aag 3 2 0 1 1\n2\n4\n6\n6 5 2\n", "aig 3 2 0 1 1\n6\n\1\3");
        written("aag 0 0 0 0 0\n", "aag 0 0 0 0 0\n", "aig 0 0 0 0 0\n");
        written("aag 5 1 0 3 0\n8\n9\n1\n8\n", "aag 1 1 0 3 0\n2\n3\n1\n2\n", "aig 1 1 0 3 0\n3\n1\n2\n");
    }

    private void nothingFolded() {
        written("aag 5 1 0 1 4\n2\n10\n4 2 2\n6 2 2\n8 4 1\n10 8 6\n",
                "aag 5 1 0 1 4\n2\n10\n4 2 2\n6 2 2\n8 4 1\n10 8 6\n",
                "aig 5 1 0 1 4\n10\n\2\0\4\0\4\3\2\2");
    }

    /** Steps of 127, 128 and of more bytes: a gate far above what it needs. */
    private void steps() {
        for (int lowest : new int[] {0, 1, 2, 3, 4, 5}) {
            StringBuilder decimal = new StringBuilder("aag 66 1 0 2 65\n2\n130\n132\n4 2 1\n");
            StringBuilder binary = new StringBuilder("aig 66 1 0 2 65\n130\n132\n\2\1");
            for (int v = 3; v <= 65; v++) {
                decimal.append(2 * v).append(' ').append(2 * v - 2).append(" 1\n");
                binary.append('\2').append(stepOf(2 * v - 3));
            }
            decimal.append("132 131 ").append(lowest).append('\n');
            binary.append('\1').append(stepOf(131 - lowest));
            written(decimal.toString(), decimal.toString(), binary.toString());
        }
    }

    private static String stepOf(int step) {
        return step < 128 ? "" + (char) step : "" + (char) (128 + step % 128) + (char) (step / 128);
    }

    /** The longest text that there is: nothing of it is cut off. */
    private void longest() {
        StringBuilder binary = new StringBuilder("aig 314 14 0 16 300\n");
        StringBuilder decimal = new StringBuilder("aag 314 14 0 16 300\n");
        for (int k = 1; k <= 14; k++) {
            decimal.append(2 * k).append('\n');
        }
        for (int o = 0; o < 16; o++) {
            binary.append("628\n");
            decimal.append("628\n");
        }
        for (int v = 15; v <= 314; v++) {
            int other = v > 80 ? 101 : 0;
            binary.append('\2').append(stepOf(2 * v - 2 - other));
            decimal.append(2 * v).append(' ').append(2 * v - 2).append(' ').append(other).append('\n');
        }
        GateText x = Checks.loaded(binary.toString());
        c.due("longest aag", Checks.written(x, false), decimal.toString());
        c.due("longest aig", Checks.written(x, true), binary.toString());
    }

    private void outBytes() {
        GateText x = new GateText();
        c.throwsDue("out(0)", NONE, () -> x.out(0));
        x.write(false);
        String text = "aag 0 0 0 0 0\n";
        for (int k = 0; k < text.length(); k++) {
            long eight = 0;
            for (int i = 0; i < 8 && k + i < text.length(); i++) {
                eight |= (long) text.charAt(k + i) << (8 * i);
            }
            c.due("out(" + k + ")", x.out(k), eight);
        }
        for (int k : new int[] {-1, -8, 14, 15, 16, 4095, 4096, Integer.MAX_VALUE, Integer.MIN_VALUE}) {
            c.throwsDue("out(" + k + ")", NONE, () -> x.out(k));
        }
    }

    /** OUT is what was written latest, whatever is loaded; a shorter text leaves no longer one's end. */
    private void outStays() {
        GateText x = Checks.loaded("aag 1 1 0 1 0\n2\n3\n");
        x.write(false);
        Checks.load(x, "aag 0 0 0 0 0\n");
        c.due("OUT stays", Checks.outText(x), "aag 1 1 0 1 0\n2\n3\n");
        x.write(false);
        c.due("OUT is new", Checks.outText(x), "aag 0 0 0 0 0\n");
        c.due("out(8)", x.out(8), 0x0a3020302030L);
        c.throwsDue("out(14)", NONE, () -> x.out(14));
    }
}
