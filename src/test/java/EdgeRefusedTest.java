import java.util.ArrayList;
import java.util.List;
import java.util.NoSuchElementException;
import java.util.function.ToLongFunction;

/** Boundary cases of the last paragraph of "Terms": which exception is thrown, and that nothing changes. */
final class EdgeRefusedTest {
    private static final Class<IllegalArgumentException> ARGUMENT = IllegalArgumentException.class;
    private static final Class<NoSuchElementException> NONE = NoSuchElementException.class;
    private static final String NEXT = "aag 3 1 0 1 1\n6\n5\n4 6 7\n";
    private static final int FED = 11;
    private final Checks c = new Checks();
    private final List<String> names = new ArrayList<>();
    private final List<Class<? extends RuntimeException>> dues = new ArrayList<>();
    private final List<ToLongFunction<GateText>> calls = new ArrayList<>();

    public static void main(String[] args) {
        EdgeRefusedTest t = new EdgeRefusedTest();
        t.c.part(t::firstListed);
        t.c.part(t::listRefused);
        t.c.part(t::nothingChanges);
        t.c.part(t::fullTapeStays);
        t.c.end();
    }

    /** An exception that is not the one due would stand above or below it: the class itself is compared. */
    private void firstListed() {
        c.sentence("Terms", "Of several exceptions that hold the one listed first is thrown");
        GateText x = new GateText();
        for (int i = 0; i < 1024; i++) {
            x.feed(8, 0);
        }
        for (int n : new int[] {0, 9, 10, -1, 8193, Integer.MIN_VALUE, Integer.MAX_VALUE}) {
            c.throwsDue("feed(" + n + ", 0) with a full tape", ARGUMENT, () -> x.feed(n, 0));
        }
        for (int n = 1; n <= 8; n++) {
            int count = n;
            c.throwsDue("feed(" + n + ", 0) with a full tape", IllegalStateException.class, () -> x.feed(count, 0));
        }
        GateText y = Checks.loaded(Checks.KEPT);
        c.throwsDue("value(8, 4): neither is good", ARGUMENT, () -> y.value(8, 4));
        c.throwsDue("value(-1, -1): neither is good", ARGUMENT, () -> y.value(-1, -1));
        c.throwsDue("alike(8, 9): neither is good", ARGUMENT, () -> y.alike(8, 9));
        c.throwsDue("literal(5, -1): neither is good", NONE, () -> y.literal(5, -1));
    }

    private void refused(String name, Class<? extends RuntimeException> due, ToLongFunction<GateText> call) {
        names.add(name);
        dues.add(due);
        calls.add(call);
    }

    private void listRefused() {
        for (int n : new int[] {0, 9, -1, Integer.MIN_VALUE, Integer.MAX_VALUE}) {
            refused("feed(" + n + ", -1)", ARGUMENT, x -> x.feed(n, -1L));
        }
        for (int l : new int[] {-1, 8, 9, 10, 12, 13, Integer.MIN_VALUE, Integer.MAX_VALUE}) {
            refused("value(" + l + ", 1)", ARGUMENT, x -> x.value(l, 1));
            refused("depth(" + l + ")", ARGUMENT, x -> x.depth(l));
            refused("cone(" + l + ")", ARGUMENT, x -> x.cone(l));
            refused("alike(" + l + ", 2)", ARGUMENT, x -> x.alike(l, 2));
            refused("alike(2, " + l + ")", ARGUMENT, x -> x.alike(2, l));
        }
        for (int in : new int[] {-1, 4, Integer.MIN_VALUE, Integer.MAX_VALUE}) {
            refused("value(6, " + in + ")", ARGUMENT, x -> x.value(6, in));
            refused("outputs(" + in + ")", ARGUMENT, x -> x.outputs(in));
        }
        for (int k : new int[] {-1, 3, 300, Integer.MIN_VALUE, Integer.MAX_VALUE}) {
            for (int what = -1; what <= 5; what++) {
                int kind = what;
                refused("literal(" + what + ", " + k + ")", NONE, x -> x.literal(kind, k));
            }
        }
        for (int k : new int[] {-1, 24, 1000, Integer.MIN_VALUE, Integer.MAX_VALUE}) {
            refused("out(" + k + ")", NONE, x -> x.out(k));
        }
        for (int what : new int[] {-1, 9, Integer.MIN_VALUE, Integer.MAX_VALUE}) {
            refused("look(" + what + ")", ARGUMENT, x -> x.look(what));
        }
    }

    /** A circuit, an OUT of another one, an error with its place, and a part of the next text. */
    private static GateText busy() {
        GateText x = Checks.loaded("aag 1 1 0 3 0\n2\n1\n3\n2\n");
        x.write(false);
        Checks.load(x, "aag 5 2 0 1 1\n2\n4\n7\n6 4 3\n");
        Checks.load(x, "aag 1 1 0 0 0\n2\nx");
        Checks.feedAll(x, NEXT.substring(0, FED));
        return x;
    }

    private void nothingChanges() {
        c.sentence("Terms", "a call that throws changes nothing");
        String before = stateOf(busy());
        c.due("the state to begin with", before.substring(0, 22), "2 1 1 5 11 22 5 16 1 |");
        for (int i = 0; i < calls.size(); i++) {
            GateText x = busy();
            ToLongFunction<GateText> call = calls.get(i);
            c.throwsDue(names.get(i), dues.get(i), () -> call.applyAsLong(x));
            c.due("the state behind " + names.get(i), stateOf(x), before);
            // What was fed before still stands on the tape, and nothing behind it.
            Checks.feedAll(x, NEXT.substring(FED));
            c.due("load() behind " + names.get(i), x.load(), 0);
            c.due("circuit behind " + names.get(i), Checks.written(x, false), "aag 2 1 0 1 1\n2\n5\n4 3 2\n");
        }
        allAtOnce(before);
    }

    /** All of the refused calls on one object, one behind the other. */
    private void allAtOnce(String before) {
        GateText x = busy();
        for (int i = 0; i < calls.size(); i++) {
            ToLongFunction<GateText> call = calls.get(i);
            c.throwsDue(names.get(i), dues.get(i), () -> call.applyAsLong(x));
        }
        c.due("the state behind all of them", stateOf(x), before);
        Checks.feedAll(x, NEXT.substring(FED));
        c.due("load() behind all of them", x.load(), 0);
    }

    private static String stateOf(GateText x) {
        StringBuilder all = new StringBuilder();
        for (int what = 0; what <= 8; what++) {
            all.append(x.look(what)).append(' ');
        }
        all.append("| ");
        for (int l = 0; l < 8; l++) {
            all.append(x.value(l, 1)).append(x.value(l, 2)).append(x.depth(l)).append(x.cone(l));
            all.append(x.alike(l, 6)).append(' ');
        }
        for (int in = 0; in < 4; in++) {
            all.append(x.outputs(in)).append(' ');
        }
        all.append(x.literal(0, 0)).append(' ').append(x.literal(0, 1)).append(' ');
        for (int what = 1; what <= 4; what++) {
            all.append(x.literal(what, 0)).append(' ');
        }
        return all.append(x.folded()).append(' ').append(Checks.outText(x)).toString();
    }

    /** A refused feed puts none of its bytes there, not even those that there would be room for. */
    private void fullTapeStays() {
        c.sentence("Promise 2, with Terms", "IllegalStateException .. changes nothing");
        GateText x = new GateText();
        Checks.feedAll(x, "aag 0 0 0 0 0\nc\n");
        for (int i = 16; i < 8184; i += 8) {
            x.feed(8, 0);
        }
        x.feed(4, 0);
        for (int n = 5; n <= 8; n++) {
            int count = n;
            c.throwsDue("feed(" + n + ", 0) with room for 4", IllegalStateException.class, () -> x.feed(count, 0));
            c.due("look(4)", x.look(4), 8188);
        }
        c.due("look(6)", x.look(6), 0);
        c.due("feed(4, 0)", x.feed(4, 0), 8192);
        c.due("load()", x.load(), 0);
    }
}
