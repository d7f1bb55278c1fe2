/** Promises 9 and 10: folded and alike. */
final class FoldTest {
    private final Checks c = new Checks();

    public static void main(String[] args) {
        FoldTest t = new FoldTest();
        t.constants();
        t.twins();
        t.laterTwins();
        t.crossedTwins();
        t.left();
        t.wrongLiterals();
        t.c.end();
    }

    private void alike(GateText x, int one, int other, int due) {
        c.due("alike(" + one + ", " + other + ")", x.alike(one, other), due);
        c.due("alike(" + other + ", " + one + ")", x.alike(other, one), due);
        c.due("alike(" + (one ^ 1) + ", " + other + ")", x.alike(one ^ 1, other), -due);
        c.due("alike(" + (one ^ 1) + ", " + (other ^ 1) + ")", x.alike(one ^ 1, other ^ 1), due);
    }

    /** Inputs 1 and 2; one gate a rule. */
    private void constants() {
        GateText x = Checks.loaded("aag 9 2 0 7 7\n2\n4\n6\n8\n10\n12\n14\n16\n18\n"
                + "6 2 0\n8 2 1\n10 2 3\n12 5 5\n14 1 1\n16 0 1\n18 5 1\n");
        alike(x, 6, 0, 1);
        alike(x, 8, 2, 1);
        alike(x, 10, 0, 1);
        alike(x, 12, 5, 1);
        alike(x, 14, 1, 1);
        alike(x, 16, 0, 1);
        alike(x, 18, 12, 1);
        alike(x, 18, 4, -1);
        alike(x, 2, 4, 0);
        alike(x, 2, 0, 0);
        alike(x, 2, 2, 1);
        alike(x, 0, 1, -1);
        c.due("folded()", x.folded(), 0);
        c.due("gates in cones", x.look(8), 7);
    }

    private void twins() {
        GateText x = Checks.loaded("aag 6 2 0 4 4\n2\n4\n6\n8\n10\n12\n6 2 4\n8 4 2\n10 2 5\n12 3 5\n");
        alike(x, 6, 8, 1);
        alike(x, 6, 10, 0);
        alike(x, 10, 12, 0);
        alike(x, 6, 12, 0);
        c.due("folded()", x.folded(), 3);
    }

    /** Gates that are twins only once theirs are; and nothing that no rule says. */
    private void laterTwins() {
        GateText x = Checks.loaded("aag 10 3 0 2 7\n2\n4\n6\n16\n18\n"
                + "8 2 4\n10 4 2\n12 10 1\n14 8 6\n16 12 6\n18 8 16\n20 14 17\n");
        alike(x, 8, 12, 1);
        alike(x, 14, 16, 1);
        alike(x, 20, 0, 1);
        // 18 is as 16 in all values, but no rule folds them.
        alike(x, 16, 18, 0);
        c.due("folded()", x.folded(), 3);
        c.due("gates in cones", x.look(8), 5);
    }

    /** Twins whose literals lie the other way round before they are folded. */
    private void crossedTwins() {
        GateText x = Checks.loaded("aag 9 2 0 2 6\n2\n4\n8\n16\n"
                + "6 2 1\n8 6 4\n10 4 1\n12 10 1\n16 12 2\n18 12 3\n");
        alike(x, 8, 16, 1);
        alike(x, 8, 18, 0);
        c.due("folded()", x.folded(), 1);
        GateText y = Checks.loaded("aag 9 2 0 2 4\n2\n4\n8\n16\n6 2 1\n8 6 4\n12 6 1\n16 12 4\n");
        alike(y, 8, 16, 1);
        c.due("folded()", y.folded(), 1);
    }

    /** What only a folded gate needed is not left; what is in no output's cone never counts. */
    private void left() {
        GateText x = Checks.loaded("aag 6 2 0 1 4\n2\n4\n10\n6 2 4\n8 6 7\n10 9 2\n12 3 5\n");
        c.due("folded()", x.folded(), 0);
        c.due("gates in cones", x.look(8), 3);
        alike(x, 10, 2, 1);
        alike(x, 8, 0, 1);
        alike(x, 12, 6, 0);
        GateText y = Checks.loaded("aag 6 2 0 2 4\n2\n4\n10\n13\n6 2 4\n8 6 7\n10 9 2\n12 3 6\n");
        c.due("folded()", y.folded(), 2);
        GateText same = Checks.loaded("aag 3 2 0 3 1\n2\n4\n6\n7\n6\n6 2 4\n");
        c.due("folded()", same.folded(), 1);
    }

    private void wrongLiterals() {
        GateText x = Checks.loaded("aag 4 1 0 0 1\n2\n6 2 2\n");
        for (int l : new int[] {-1, -2, 4, 5, 8, 9, 10, 11, Integer.MAX_VALUE, Integer.MIN_VALUE}) {
            c.throwsDue("alike(" + l + ", 2)", IllegalArgumentException.class, () -> x.alike(l, 2));
            c.throwsDue("alike(2, " + l + ")", IllegalArgumentException.class, () -> x.alike(2, l));
            c.throwsDue("alike(" + l + ", " + l + ")", IllegalArgumentException.class, () -> x.alike(l, l));
        }
        alike(x, 6, 2, 1);
    }
}
