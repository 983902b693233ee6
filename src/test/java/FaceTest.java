import java.lang.reflect.Constructor;
import java.lang.reflect.Field;
import java.lang.reflect.Method;
import java.lang.reflect.Modifier;
import java.util.Set;
import java.util.TreeSet;

/** The public face: every constant with its value, the constructor, the fifteen methods, and nothing else. */
public final class FaceTest {
    private static final Set<String> FACE = Set.of(
        "int UNUSED = 0", "int SHARED = 1", "int LOCAL = 2", "int SUM = 3", "int MINIMUM = 4", "int CARRIED = 5",
        "int BAD = -1", "int FULL = -2", "int BUSY = -3",
        "new(int, int)",
        "int add(int, int, int, int)", "int drop()", "int length()",
        "boolean setScalar(int, int)", "boolean setCell(int, int)", "int scalar(int)", "int cell(int)",
        "int role(int)", "boolean clash(int, int)", "boolean parallel()",
        "boolean start()", "int step(int, int)", "int left(int)", "boolean finish()", "boolean abandon()");

    public static void main(String[] args) throws IllegalAccessException {
        Set<String> found = new TreeSet<>();
        for (Field f : LoopWorkers.class.getDeclaredFields()) {
            if (!Modifier.isPrivate(f.getModifiers())) {
                int constant = Modifier.PUBLIC | Modifier.STATIC | Modifier.FINAL;
                Check.due(f.getName() + " is a constant", f.getModifiers(), constant);
                found.add(f.getType() + " " + f.getName() + " = " + f.get(null));
            }
        }
        for (Constructor<?> c : LoopWorkers.class.getDeclaredConstructors()) {
            if (!Modifier.isPrivate(c.getModifiers())) {
                Check.due("the constructor is public", c.getModifiers(), Modifier.PUBLIC);
                found.add("new" + list(c.getParameterTypes()));
            }
        }
        for (Method m : LoopWorkers.class.getDeclaredMethods()) {
            if (!Modifier.isPrivate(m.getModifiers())) {
                Check.due(m.getName() + " is public", m.getModifiers(), Modifier.PUBLIC);
                found.add(m.getReturnType() + " " + m.getName() + list(m.getParameterTypes()));
            }
        }
        Check.due("the class is public and final", LoopWorkers.class.getModifiers(), Modifier.PUBLIC | Modifier.FINAL);
        for (String member : FACE) {
            Check.due("has " + member, found.contains(member), true);
        }
        for (String member : found) {
            Check.due("may have " + member, FACE.contains(member), true);
        }
        Check.end();
    }

    private static String list(Class<?>[] types) {
        StringBuilder s = new StringBuilder("(");
        for (Class<?> t : types) {
            s.append(s.length() > 1 ? ", " : "").append(t.getName());
        }
        return s.append(")").toString();
    }
}
