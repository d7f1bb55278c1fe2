import java.util.NoSuchElementException;

/** Promise 1: the first circuit, no error, an empty OUT; and objects that have nothing in common. */
final class NewObjectTest {
    public static void main(String[] args) {
        Checks c = new Checks();
        GateText x = new GateText();
        for (int what = 0; what <= 8; what++) {
            c.due("look(" + what + ")", x.look(what), 0);
        }
        c.due("value(0, 0)", x.value(0, 0), 0);
        c.due("value(1, 0)", x.value(1, 0), 1);
        c.throwsDue("value(2, 0)", IllegalArgumentException.class, () -> x.value(2, 0));
        c.throwsDue("value(0, 1)", IllegalArgumentException.class, () -> x.value(0, 1));
        c.due("outputs(0)", x.outputs(0), 0);
        c.throwsDue("outputs(1)", IllegalArgumentException.class, () -> x.outputs(1));
        for (int what = -1; what <= 5; what++) {
            int kind = what;
            c.throwsDue("literal(" + what + ", 0)", NoSuchElementException.class, () -> x.literal(kind, 0));
        }
        c.due("depth(1)", x.depth(1), 0);
        c.due("cone(0)", x.cone(0), 0);
        c.due("folded()", x.folded(), 0);
        c.due("alike(0, 1)", x.alike(0, 1), -1);
        c.throwsDue("depth(2)", IllegalArgumentException.class, () -> x.depth(2));
        c.throwsDue("out(0)", NoSuchElementException.class, () -> x.out(0));
        c.due("first circuit as aag", Checks.written(x, false), "aag 0 0 0 0 0\n");
        c.due("first circuit as aig", Checks.written(x, true), "aig 0 0 0 0 0\n");

        GateText other = Checks.loaded("aag 1 1 0 1 0\n2\n3\n");
        other.feed(1, 7);
        other.write(false);
        GateText fresh = new GateText();
        for (int what = 0; what <= 8; what++) {
            c.due("another object's look(" + what + ")", fresh.look(what), 0);
        }
        c.end();
    }
}
