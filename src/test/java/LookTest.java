/** Promise 13: look. */
final class LookTest {
    public static void main(String[] args) {
        Checks c = new Checks();
        GateText x = Checks.loaded("aag 9 2 0 3 4\n2\n4\n8\n0\n6\n6 2 4\n8 7 2\n10 8 8\n12 10 3\n");
        looks(c, x, 2, 4, 3, 9, 0, 0, 0, 0, 2);
        x.feed(7, 0);
        looks(c, x, 2, 4, 3, 9, 7, 0, 0, 0, 2);
        x.write(true);
        looks(c, x, 2, 4, 3, 9, 7, 24, 0, 0, 2);
        x.load();
        looks(c, x, 2, 4, 3, 9, 0, 24, 1, 0, 2);
        Checks.load(x, "aag 1 1 0 0 0\n2\nx");
        looks(c, x, 2, 4, 3, 9, 0, 24, 5, 16, 2);
        Checks.load(x, "aag 1000 0 0 1 0\n1\n");
        looks(c, x, 0, 0, 1, 1000, 0, 24, 0, 0, 0);
        for (int what : new int[] {-1, 9, 10, Integer.MAX_VALUE, Integer.MIN_VALUE}) {
            c.throwsDue("look(" + what + ")", IllegalArgumentException.class, () -> x.look(what));
        }
        c.end();
    }

    private static void looks(Checks c, GateText x, int... due) {
        for (int what = 0; what < due.length; what++) {
            c.due("look(" + what + ")", x.look(what), due[what]);
        }
    }
}
