/** Promise 2: feed. */
final class FeedTest {
    private static final Class<IllegalArgumentException> ARGUMENT = IllegalArgumentException.class;

    public static void main(String[] args) {
        Checks c = new Checks();
        countsAndOrder(c);
        wrongCounts(c);
        fullTape(c);
        c.end();
    }

    private static void countsAndOrder(Checks c) {
        GateText x = new GateText();
        int total = 0;
        for (int n = 1; n <= 8; n++) {
            total += n;
            c.due("feed(" + n + ", -1)", x.feed(n, -1L), total);
            c.due("look(4)", x.look(4), total);
        }
        c.due("load() of 255s", x.load(), 1);
        c.due("the tape is used up", x.look(4), 0);

        // Only the n lowest bytes count, the lowest first.
        GateText y = new GateText();
        c.due("feed 'aag'", y.feed(3, 0xff_ff_ff_ff_ff_67_61_61L), 3);
        c.due("feed ' 0 0 0 0'", y.feed(8, 0x30_20_30_20_30_20_30_20L), 11);
        c.due("feed ' 0'", y.feed(2, 0x7f_30_20L), 13);
        c.due("feed line's end", y.feed(1, 0xee_0aL), 14);
        c.due("load()", y.load(), 0);
        c.due("feed begins anew", y.feed(2, 0), 2);
    }

    private static void wrongCounts(Checks c) {
        GateText x = new GateText();
        x.feed(5, 0);
        for (int n : new int[] {0, 9, -1, 16, 64, Integer.MIN_VALUE, Integer.MAX_VALUE}) {
            c.throwsDue("feed(" + n + ", 0)", ARGUMENT, () -> x.feed(n, 0));
            c.due("a refused feed changes nothing", x.look(4), 5);
        }
    }

    private static void fullTape(Checks c) {
        GateText x = new GateText();
        for (int i = 0; i < 1023; i++) {
            x.feed(8, 0x2020202020202020L);
        }
        c.due("look(4)", x.look(4), 8184);
        x.feed(4, 0);
        c.throwsDue("feed(5, 0)", IllegalStateException.class, () -> x.feed(5, 0));
        c.due("a refused feed changes nothing", x.look(4), 8188);
        c.due("feed(4, 0)", x.feed(4, 0), 8192);
        c.throwsDue("feed(1, 0)", IllegalStateException.class, () -> x.feed(1, 0));
        c.throwsDue("feed(9, 0)", ARGUMENT, () -> x.feed(9, 0));
        c.throwsDue("feed(0, 0)", ARGUMENT, () -> x.feed(0, 0));
        c.due("load()", x.load(), 1);
        c.due("feed(8, 0)", x.feed(8, 0), 8);
    }
}
