import java.lang.reflect.Array;
import java.lang.reflect.Field;
import java.lang.reflect.Modifier;
import java.util.ArrayDeque;
import java.util.Collections;
import java.util.Deque;
import java.util.IdentityHashMap;
import java.util.Set;

/** "All memory is the class's own, made once": the same rows behind the last call as behind the first. */
final class MemoryTest {
    // A run's calls live in one room of 7.3 million elements: an object has to be far below that.
    private static final long MOST_ELEMENTS = 20000;

    public static void main(String[] args) throws IllegalAccessException {
        Checks c = new Checks();
        c.sentence("Terms", "All memory is the class's own, made once");
        GateText x = new GateText();
        Set<Object> before = reached(x);
        c.due("an object's elements are few", elements(before) <= MOST_ELEMENTS ? 1 : 0, 1);
        work(x);
        Set<Object> behind = reached(x);
        c.due("as many things as before", behind.size(), before.size());
        c.due("no thing that was not there before", before.containsAll(behind) ? 1 : 0, 1);
        Set<Object> other = reached(new GateText());
        other.retainAll(before);
        c.due("two objects have nothing in common", other.size(), 0);
        c.end();
    }

    private static void work(GateText x) {
        String most = Texts.firstLine(true, 300, 0, 1, 300) + "600\n" + "\2\0".repeat(300);
        for (String text : new String[] {most, Checks.KEPT, "", "aag x", "aag 1 0 0 0 1\n2 2 2\n", most}) {
            Checks.load(x, text);
            x.outputs(0);
            x.value(1, 0);
            x.depth(1);
            x.cone(1);
            x.folded();
            x.alike(0, 1);
            x.look(8);
            x.write(false);
            x.out(0);
            x.write(true);
        }
    }

    /** An object, and all that it leads to. */
    private static Set<Object> reached(Object from) throws IllegalAccessException {
        Set<Object> all = Collections.newSetFromMap(new IdentityHashMap<>());
        Deque<Object> next = new ArrayDeque<>();
        next.add(from);
        while (!next.isEmpty()) {
            Object one = next.remove();
            if (!all.add(one) || one.getClass().isArray()) {
                continue;
            }
            for (Field f : one.getClass().getDeclaredFields()) {
                if (!Modifier.isStatic(f.getModifiers()) && !f.getType().isPrimitive()) {
                    f.setAccessible(true);
                    next.add(f.get(one));
                }
            }
        }
        return all;
    }

    private static long elements(Set<Object> all) {
        long sum = 0;
        for (Object one : all) {
            sum += one.getClass().isArray() ? Array.getLength(one) : one.getClass().getDeclaredFields().length;
        }
        return sum;
    }
}
