import java.lang.reflect.Constructor;
import java.lang.reflect.Field;
import java.lang.reflect.Method;
import java.lang.reflect.Modifier;
import java.util.Arrays;
import java.util.TreeSet;

/** "The public face": every member of the document, and no other that can be seen from outside. */
final class FaceTest {
    private static final String[] FACE = {
        "alike(int,int) int IllegalArgumentException",
        "cone(int) int IllegalArgumentException",
        "depth(int) int IllegalArgumentException",
        "feed(int,long) int IllegalArgumentException IllegalStateException",
        "folded() int",
        "literal(int,int) int NoSuchElementException",
        "load() int",
        "look(int) int IllegalArgumentException",
        "out(int) long NoSuchElementException",
        "outputs(int) int IllegalArgumentException",
        "value(int,int) int IllegalArgumentException",
        "write(boolean) int",
    };

    public static void main(String[] args) {
        Checks c = new Checks();
        int modifiers = GateText.class.getModifiers();
        c.due("public and final", (modifiers & Modifier.PUBLIC) != 0 && (modifiers & Modifier.FINAL) != 0 ? 1 : 0, 1);
        TreeSet<String> seen = new TreeSet<>();
        TreeSet<String> names = new TreeSet<>();
        TreeSet<String> hidden = new TreeSet<>();
        for (Method m : GateText.class.getDeclaredMethods()) {
            if (Modifier.isPrivate(m.getModifiers())) {
                hidden.add(m.getName());
            } else {
                seen.add((Modifier.isPublic(m.getModifiers()) ? "" : "not public: ") + told(m));
                names.add(m.getName());
            }
        }
        c.due("methods", seen.toString(), new TreeSet<>(Arrays.asList(FACE)).toString());
        hidden.retainAll(names);
        c.due("private methods with a public one's name", hidden.toString(), "[]");
        for (Field f : GateText.class.getDeclaredFields()) {
            c.due("field " + f.getName() + " is private", Modifier.isPrivate(f.getModifiers()) ? 1 : 0, 1);
        }
        Constructor<?>[] made = GateText.class.getDeclaredConstructors();
        c.due("constructors", made.length, 1);
        c.due("constructor", made[0].toString(), "public GateText()");
        for (Class<?> inside : GateText.class.getDeclaredClasses()) {
            c.due(inside.getName() + " is static", Modifier.isStatic(inside.getModifiers()) ? 1 : 0, 1);
            c.due(inside.getName() + " is hidden",
                    inside.getModifiers() & (Modifier.PUBLIC | Modifier.PROTECTED), 0);
        }
        c.end();
    }

    private static String told(Method m) {
        StringBuilder all = new StringBuilder(m.getName()).append('(');
        String between = "";
        for (Class<?> p : m.getParameterTypes()) {
            all.append(between).append(p.getSimpleName());
            between = ",";
        }
        all.append(") ").append(m.getReturnType().getSimpleName());
        for (Class<?> e : m.getExceptionTypes()) {
            all.append(' ').append(e.getSimpleName());
        }
        return all.toString();
    }
}
