import java.lang.reflect.Constructor;
import java.lang.reflect.Field;
import java.lang.reflect.Method;
import java.lang.reflect.Modifier;
import java.util.Arrays;
import java.util.Set;
import java.util.TreeSet;
import java.util.stream.Collectors;

/** The public face: every constant, the constructor and every method, and nothing else that is not private. */
public final class FaceTest {
    private static final Check check = new Check("FaceTest");
    private static final Set<String> METHODS = new TreeSet<>(Set.of(
            "int weight(int, int)", "int set(int, int)", "int rule(int, int, boolean, int, int)",
            "int overrule(int)", "int print()", "int drop(int)", "int sue(int, int)", "int stay(int, int)",
            "int day()", "int append(int)", "int clear()", "int fault(int)", "int plead()", "int why(int)",
            "int sign(int, int)", "int edition(int, int)", "int gap(int, int, int)", "int ruling(int, int)",
            "int whyNot(int, int)", "int best(int, int, int)", "int ways(int, int)", "int count(int)",
            "double length()", "int ifRuled(int, int, boolean, int)", "int bestSuit(int)", "int undo()",
            "int save()", "int restore()"));
    private static final Set<String> CONSTANTS = new TreeSet<>(Set.of("INVALID_ARGUMENT", "NOT_POSSIBLE",
            "LIMIT_REACHED", "NOT_FOUND", "BALANCE", "HEAVY"));

    public static void main(String[] args) {
        check.due("INVALID_ARGUMENT", CommaCourt.INVALID_ARGUMENT, -1);
        check.due("NOT_POSSIBLE", CommaCourt.NOT_POSSIBLE, -2);
        check.due("LIMIT_REACHED", CommaCourt.LIMIT_REACHED, -3);
        check.due("NOT_FOUND", CommaCourt.NOT_FOUND, -4);
        check.due("BALANCE", CommaCourt.BALANCE, 0);
        check.due("HEAVY", CommaCourt.HEAVY, 1);
        methods();
        constants();
        classes();
        check.end();
    }

    private static void methods() {
        Set<String> open = new TreeSet<>();
        Set<String> publicNames = new TreeSet<>();
        Set<String> otherNames = new TreeSet<>();
        for (Method method : CommaCourt.class.getDeclaredMethods()) {
            if (Modifier.isPrivate(method.getModifiers()) || method.isSynthetic()) {
                otherNames.add(method.getName());
                continue;
            }
            String takes = Arrays.stream(method.getParameterTypes()).map(Class::getName)
                    .collect(Collectors.joining(", "));
            open.add(method.getReturnType() + " " + method.getName() + "(" + takes + ")");
            publicNames.add(method.getName());
            check.dueTrue(method + " is public and not static", Modifier.isPublic(method.getModifiers())
                    && !Modifier.isStatic(method.getModifiers()));
        }
        check.dueTrue("the methods are those of the document: " + open, open.equals(METHODS));
        otherNames.retainAll(publicNames);
        check.dueTrue("no private method bears a public name: " + otherNames, otherNames.isEmpty());
    }

    private static void constants() {
        Set<String> open = new TreeSet<>();
        for (Field field : CommaCourt.class.getDeclaredFields()) {
            int modifiers = field.getModifiers();
            if (!Modifier.isPrivate(modifiers)) {
                open.add(field.getName());
                check.dueTrue(field + " is a constant", Modifier.isPublic(modifiers)
                        && Modifier.isStatic(modifiers) && field.getType() == int.class);
            }
            check.dueTrue(field + " is final if it is static",
                    !Modifier.isStatic(modifiers) || Modifier.isFinal(modifiers));
        }
        check.dueTrue("the constants are those of the document: " + open, open.equals(CONSTANTS));
    }

    private static void classes() {
        int modifiers = CommaCourt.class.getModifiers();
        check.dueTrue("the class is public and final", Modifier.isPublic(modifiers) && Modifier.isFinal(modifiers));
        Constructor<?>[] constructors = CommaCourt.class.getDeclaredConstructors();
        check.dueTrue("one public constructor without arguments", constructors.length == 1
                && constructors[0].getParameterCount() == 0 && Modifier.isPublic(constructors[0].getModifiers()));
        for (Class<?> inside : CommaCourt.class.getDeclaredClasses()) {
            check.dueTrue(inside + " is static and not public", Modifier.isStatic(inside.getModifiers())
                    && !Modifier.isPublic(inside.getModifiers()) && !Modifier.isProtected(inside.getModifiers()));
        }
    }
}
