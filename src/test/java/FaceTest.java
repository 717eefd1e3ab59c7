import java.lang.reflect.Constructor;
import java.lang.reflect.Field;
import java.lang.reflect.Method;
import java.lang.reflect.Modifier;
import java.util.Arrays;
import java.util.List;
import java.util.Set;
import java.util.TreeSet;

/** The public face: every constant, constructor and method of the document, and nothing else that can be seen. */
public final class FaceTest {
    private static final Checks CHECKS = new Checks("FaceTest");
    private static final List<String> METHODS = List.of("int rows(int, int)", "int part(int, int, int)",
            "int count(int)", "int run(int)", "int pin(int)", "int forget(int)", "int drift(int)", "int append(int)",
            "int clear()", "int fault()", "int carryOut()", "int why(int)", "int table(int, int)",
            "int partOf(int, int)", "int size(int, boolean)", "int least(int, boolean, int)",
            "int best(int, boolean, int)", "int plan(int, int)", "int counted(int)", "double fitness()",
            "int ifCounted(int, int)", "int ifRun(int)", "int leastDrift()", "int undo()", "int save()",
            "int restore()");

    public static void main(String[] args) {
        constants();
        fields();
        methods();
        constructors();
        CHECKS.end();
    }

    private static void constants() {
        CHECKS.due("INVALID_ARGUMENT", DriftPlans.INVALID_ARGUMENT, -1);
        CHECKS.due("NOT_POSSIBLE", DriftPlans.NOT_POSSIBLE, -2);
        CHECKS.due("LIMIT_REACHED", DriftPlans.LIMIT_REACHED, -3);
        CHECKS.due("NOT_FOUND", DriftPlans.NOT_FOUND, -4);
    }

    private static void fields() {
        Set<String> names = new TreeSet<>();
        for (Field field : DriftPlans.class.getDeclaredFields()) {
            if (!Modifier.isPrivate(field.getModifiers())) {
                names.add(field.getName());
            } else if (Modifier.isStatic(field.getModifiers())) {
                CHECKS.holds(field.getName() + " is final", Modifier.isFinal(field.getModifiers()));
            }
        }
        CHECKS.holds("the constants alone are seen: " + names, names
                .equals(Set.of("INVALID_ARGUMENT", "NOT_POSSIBLE", "LIMIT_REACHED", "NOT_FOUND")));
        CHECKS.holds("the class is public and final",
                DriftPlans.class.getModifiers() == (Modifier.PUBLIC | Modifier.FINAL));
    }

    private static void methods() {
        Set<String> seen = new TreeSet<>();
        Set<String> seenNames = new TreeSet<>();
        for (Method method : DriftPlans.class.getDeclaredMethods()) {
            if (!Modifier.isPrivate(method.getModifiers()) && !method.isSynthetic()) {
                seenNames.add(method.getName());
                String types = Arrays.toString(method.getParameterTypes());
                seen.add(method.getReturnType() + " " + method.getName() + "("
                        + types.substring(1, types.length() - 1) + ")");
            }
        }
        CHECKS.holds("the methods of the document: " + seen, seen.equals(new TreeSet<>(METHODS)));
        for (Method method : DriftPlans.class.getDeclaredMethods()) {
            if (Modifier.isPrivate(method.getModifiers())) {
                CHECKS.holds(method.getName() + " bears a name of its own", !seenNames.contains(method.getName()));
            }
        }
    }

    private static void constructors() {
        Constructor<?>[] all = DriftPlans.class.getDeclaredConstructors();
        CHECKS.due("constructors", all.length, 1);
        CHECKS.due("its parameters", all[0].getParameterCount(), 0);
        CHECKS.holds("it is public", Modifier.isPublic(all[0].getModifiers()));
    }
}
