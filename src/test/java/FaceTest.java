import java.lang.reflect.Constructor;
import java.lang.reflect.Field;
import java.lang.reflect.Method;
import java.lang.reflect.Modifier;
import java.util.Set;
import java.util.TreeSet;

/** The public face: the document's constants, constructor and methods, and nothing else that can be seen. */
public final class FaceTest {
    private static final Due T = new Due("FaceTest");
    private static final Set<String> METHODS = Set.of("type 1", "clear 0", "grid 0", "cell 2", "near 3", "flips 2",
        "rests 1", "moves 2", "undo 0", "held 2", "extreme 1", "energy 0", "better 1", "shifts 0", "rank 2",
        "ranked 1", "stage 2", "shade 2", "finest 1", "paints 3", "ink 2", "off 0", "sees 2", "forget 0",
        "unseen 1", "keep 1", "back 1", "count 1");

    public static void main(String[] args) {
        T.due("BAD", DotThresholds.BAD, -1);
        T.due("STATE", DotThresholds.STATE, -2);
        T.due("FULL", DotThresholds.FULL, -3);
        T.due("NONE", DotThresholds.NONE, -9);
        methods();
        fields();
        classesInside();
        Constructor<?>[] made = DotThresholds.class.getDeclaredConstructors();
        T.due("constructors", made.length, 1);
        T.due("its parameters", made[0].getParameterCount(), 0);
        T.due("public and final", DotThresholds.class.getModifiers(), Modifier.PUBLIC | Modifier.FINAL);
        T.end();
    }

    private static long publicOnes(String name) {
        return METHODS.stream().filter(m -> m.startsWith(name + " ")).count();
    }

    private static void classesInside() {
        for (Class<?> inside : DotThresholds.class.getDeclaredClasses()) {
            T.due(inside + " is private, static and final", inside.getModifiers(),
                Modifier.PRIVATE | Modifier.STATIC | Modifier.FINAL);
            for (Method method : inside.getDeclaredMethods()) {
                T.due(method + " bears a public name", publicOnes(method.getName()), 0);
            }
            for (Field field : inside.getDeclaredFields()) {
                boolean isFinal = Modifier.isFinal(field.getModifiers());
                T.due(field + " is static state", Modifier.isStatic(field.getModifiers()) && !isFinal ? 1 : 0, 0);
            }
        }
    }

    private static void methods() {
        Set<String> seen = new TreeSet<>();
        for (Method method : DotThresholds.class.getDeclaredMethods()) {
            if (Modifier.isPrivate(method.getModifiers())) {
                T.due(method + " bears a public name", publicOnes(method.getName()), 0);
                continue;
            }
            seen.add(method.getName() + " " + method.getParameterCount());
            T.due(method + " is a public method that answers int", method.getReturnType() == int.class
                && method.getModifiers() == Modifier.PUBLIC ? 1 : 0, 1);
        }
        T.due("the methods are those of the document", seen.equals(new TreeSet<>(METHODS)) ? 1 : 0, 1);
    }

    private static void fields() {
        Set<String> seen = new TreeSet<>();
        for (Field field : DotThresholds.class.getDeclaredFields()) {
            if (!Modifier.isPrivate(field.getModifiers())) {
                seen.add(field.getName());
            }
            T.due(field + " is final", Modifier.isFinal(field.getModifiers()) ? 1 : 0, 1);
        }
        T.due("the constants are those of the document", seen.equals(new TreeSet<>(Set.of("BAD", "STATE", "FULL", "NONE"))) ? 1 : 0, 1);
    }
}
