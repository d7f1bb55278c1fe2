/** Promises 7 and 8: depth and cone. */
final class MeasureTest {
    public static void main(String[] args) {
        Checks c = new Checks();
        shared(c);
        chain(c);
        wrongLiterals(c);
        c.end();
    }

    /** Gate 5 needs 4 and 3, 4 needs 3 and an input, 3 the inputs; 6 needs variable 0 alone; 7 twice 6. */
    private static void shared(Checks c) {
        GateText x = Checks.loaded("aag 7 2 0 1 5\n2\n4\n15\n10 8 7\n8 6 2\n14 12 13\n6 2 4\n12 0 1\n");
        measured(c, x, 0, 0, 0);
        measured(c, x, 2, 0, 0);
        measured(c, x, 4, 0, 0);
        measured(c, x, 6, 1, 1);
        measured(c, x, 8, 2, 2);
        measured(c, x, 10, 3, 3);
        measured(c, x, 12, 1, 1);
        measured(c, x, 14, 2, 2);
    }

    private static void measured(Checks c, GateText x, int literal, int depth, int cone) {
        for (int inverted = 0; inverted < 2; inverted++) {
            int l = literal + inverted;
            c.due("depth(" + l + ")", x.depth(l), depth);
            c.due("cone(" + l + ")", x.cone(l), cone);
        }
    }

    /** 150 gates, the deepest first in the text and least in its variable. */
    private static void chain(Checks c) {
        StringBuilder all = new StringBuilder("aag 151 1 0 0 150\n302\n");
        for (int v = 1; v <= 150; v++) {
            all.append(2 * v).append(' ').append(2 * v + 3).append(" 302\n");
        }
        GateText x = Checks.loaded(all.toString());
        for (int v = 1; v <= 150; v += 7) {
            c.due("depth of gate " + v, x.depth(2 * v), 151 - v);
            c.due("cone of gate " + v, x.cone(2 * v + 1), 151 - v);
        }
    }

    private static void wrongLiterals(Checks c) {
        GateText x = Checks.loaded("aag 4 1 0 0 1\n2\n6 2 2\n");
        for (int l : new int[] {-1, -2, 4, 5, 8, 9, 10, 11, 2002, Integer.MAX_VALUE, Integer.MIN_VALUE}) {
            c.throwsDue("depth(" + l + ")", IllegalArgumentException.class, () -> x.depth(l));
            c.throwsDue("cone(" + l + ")", IllegalArgumentException.class, () -> x.cone(l));
        }
        c.due("depth(7)", x.depth(7), 1);
    }
}
