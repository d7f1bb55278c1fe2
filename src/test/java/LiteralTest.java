import java.util.NoSuchElementException;

/** Promise 6: literal. */
final class LiteralTest {
    private static final Class<NoSuchElementException> NONE = NoSuchElementException.class;

    public static void main(String[] args) {
        Checks c = new Checks();
        GateText x = Checks.loaded("aag 9 2 0 3 3\n6\n4\n19\n0\n2\n18 2 16\n2 4 7\n16 7 7\n");
        row(c, x, 0, 6, 4);
        row(c, x, 1, 18, 2, 16);
        row(c, x, 2, 19, 0, 2);
        row(c, x, 3, 16, 7, 7);
        row(c, x, 4, 2, 4, 7);
        for (int what : new int[] {-1, 5, 6, Integer.MAX_VALUE, Integer.MIN_VALUE}) {
            c.throwsDue("literal(" + what + ", 0)", NONE, () -> x.literal(what, 0));
        }
        GateText y = Checks.loaded("aig 4 2 0 1 2\n9\n\2\2\1\3");
        row(c, y, 0, 2, 4);
        row(c, y, 1, 6, 8);
        row(c, y, 2, 9);
        row(c, y, 3, 4, 7);
        row(c, y, 4, 2, 4);
        c.end();
    }

    private static void row(Checks c, GateText x, int what, int... due) {
        for (int k = 0; k < due.length; k++) {
            c.due("literal(" + what + ", " + k + ")", x.literal(what, k), due[k]);
        }
        for (int k : new int[] {-1, due.length, 14, 16, 300, Integer.MAX_VALUE, Integer.MIN_VALUE}) {
            c.throwsDue("literal(" + what + ", " + k + ")", NONE, () -> x.literal(what, k));
        }
    }
}
