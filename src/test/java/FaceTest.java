import java.lang.reflect.Constructor;
import java.lang.reflect.Field;
import java.lang.reflect.Method;
import java.lang.reflect.Modifier;
import java.util.Set;
import java.util.TreeSet;

/** The public face of the document: every constant, the constructor and every method, and no more. */
public final class FaceTest {
    private static final Set<String> METHODS = Set.of(
        "add 1", "drop 1", "turn 0", "mirror 0", "reverse 0", "letter 1", "writhe 0", "loops 1", "states 1",
        "bracket 1", "invariant 1", "spread 0", "determinant 0", "components 0", "ends 1", "linking 2",
        "colourings 1");
    private static final Set<String> CONSTANTS = Set.of("BAD_ARG", "FULL", "NONE");
    private static final Due due = new Due("FaceTest");

    public static void main(String[] args) {
        due.is("the class is public and final", BraidKnots.class.getModifiers(), Modifier.PUBLIC | Modifier.FINAL);
        due.is("nested classes", BraidKnots.class.getDeclaredClasses().length, 0);
        constructors();
        methods();
        fields();
        due.end();
    }

    private static void constructors() {
        Constructor<?>[] all = BraidKnots.class.getDeclaredConstructors();
        due.is("constructors", all.length, 1);
        due.is("the constructor is public", all[0].getModifiers(), Modifier.PUBLIC);
        due.holds("the constructor takes an int", ints(all[0].getParameterTypes()));
    }

    private static void methods() {
        Set<String> open = new TreeSet<>();
        Set<String> closed = new TreeSet<>();
        for (Method method : BraidKnots.class.getDeclaredMethods()) {
            if (Modifier.isPrivate(method.getModifiers())) {
                closed.add(method.getName());
                continue;
            }
            open.add(method.getName() + " " + method.getParameterCount());
            due.is(method.getName() + " is public and no more", method.getModifiers(), Modifier.PUBLIC);
            due.holds(method + " is over int alone",
                method.getReturnType() == int.class && ints(method.getParameterTypes()));
        }
        due.holds("the methods are those of the document: " + open, open.equals(METHODS));
        for (String method : METHODS) {
            String name = method.substring(0, method.indexOf(' '));
            due.holds("no private method bears the name " + name, !closed.contains(name));
        }
    }

    private static void fields() {
        Set<String> open = new TreeSet<>();
        for (Field field : BraidKnots.class.getDeclaredFields()) {
            int modifiers = field.getModifiers();
            if (Modifier.isPublic(modifiers)) {
                open.add(field.getName());
                due.is(field.getName(), modifiers, Modifier.PUBLIC | Modifier.STATIC | Modifier.FINAL);
            } else {
                due.holds(field + " is private", Modifier.isPrivate(modifiers));
            }
            if (Modifier.isStatic(modifiers)) {
                due.holds(field + " is a constant int or long", Modifier.isFinal(modifiers)
                    && (field.getType() == int.class || field.getType() == long.class));
            }
        }
        due.holds("the constants are those of the document: " + open, open.equals(CONSTANTS));
    }

    private static boolean ints(Class<?>[] types) {
        for (Class<?> type : types) {
            if (type != int.class) {
                return false;
            }
        }
        return true;
    }
}
