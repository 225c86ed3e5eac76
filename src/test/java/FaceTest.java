import java.lang.reflect.Constructor;
import java.lang.reflect.Field;
import java.lang.reflect.Method;
import java.lang.reflect.Modifier;
import java.util.Set;
import java.util.TreeSet;

/** The public face is the document's, and nothing but private members stands beside it. */
public final class FaceTest {
    private static final Set<String> METHODS = Set.of(
            "public int hard(int)",
            "public int soft(int,int)",
            "public int drop(int)",
            "public int possible()",
            "public int loss()",
            "public int best()",
            "public int lossWith(int)",
            "public int lossAgainst(int)",
            "public int kept()");

    public static void main(String[] args) {
        theClass();
        theConstructor();
        theMethods();
        theFields();
        Due.end();
    }

    private static void theClass() {
        int modifiers = SoftSolver.class.getModifiers();
        Due.is("class modifiers", modifiers & ~0x20, Modifier.PUBLIC | Modifier.FINAL);
        Due.is("superclass is Object", SoftSolver.class.getSuperclass() == Object.class ? 1 : 0, 1);
        Due.is("number of interfaces", SoftSolver.class.getInterfaces().length, 0);
        Due.is("number of nested classes", SoftSolver.class.getDeclaredClasses().length, 0);
    }

    private static void theConstructor() {
        Constructor<?>[] all = SoftSolver.class.getDeclaredConstructors();
        Due.is("number of constructors", all.length, 1);
        Due.is("constructor modifiers", all[0].getModifiers(), Modifier.PUBLIC);
        Due.is("constructor parameters", all[0].getParameterCount(), 0);
    }

    private static void theMethods() {
        Set<String> seen = new TreeSet<>();
        Set<String> names = new TreeSet<>();
        for (Method method : SoftSolver.class.getDeclaredMethods()) {
            if (!Modifier.isPrivate(method.getModifiers())) {
                seen.add(method.toString().replace("SoftSolver.", ""));
                names.add(method.getName());
            }
        }
        for (String wanted : METHODS) {
            Due.is("has " + wanted, seen.contains(wanted) ? 1 : 0, 1);
        }
        for (String found : seen) {
            Due.is("the document has " + found, METHODS.contains(found) ? 1 : 0, 1);
        }
        for (Method method : SoftSolver.class.getDeclaredMethods()) {
            if (Modifier.isPrivate(method.getModifiers())) {
                Due.is(method + " bears a public name", names.contains(method.getName()) ? 1 : 0, 0);
            }
        }
    }

    private static void theFields() {
        for (Field field : SoftSolver.class.getDeclaredFields()) {
            int modifiers = field.getModifiers();
            Due.is(field + " is private", Modifier.isPrivate(modifiers) ? 1 : 0, 1);
            if (Modifier.isStatic(modifiers)) {
                boolean constant = Modifier.isFinal(modifiers) && field.getType().isPrimitive();
                Due.is(field + " is a constant", constant ? 1 : 0, 1);
            }
        }
    }
}
