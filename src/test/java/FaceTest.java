import java.lang.reflect.Constructor;
import java.lang.reflect.Field;
import java.lang.reflect.Method;
import java.lang.reflect.Modifier;
import java.util.Arrays;
import java.util.Set;
import java.util.TreeSet;

/** The public face of the document, and nothing beside it that others can see. */
public final class FaceTest {
    private static final String[] METHODS = {
        "claims/0", "attack/3", "attacks/2", "play/2", "grounded/0", "groundedLabel/1", "is/2", "count/1",
        "nth/2", "possible/2", "certain/2", "core/1", "range/1", "defended/1", "ideal/0",
    };
    private static final String[] CONSTANTS = {
        "ADMISSIBLE", "COMPLETE", "PREFERRED", "STABLE", "STAGE", "SEMISTABLE",
    };

    public static void main(String[] args) throws ReflectiveOperationException {
        Check check = new Check();
        Class<?> type = ArgSolver.class;
        check.holds("public", Modifier.isPublic(type.getModifiers()));
        check.holds("final", Modifier.isFinal(type.getModifiers()));
        check.holds("no package", type.getPackageName().isEmpty());
        check.holds("no nested class", type.getDeclaredClasses().length == 0);
        constructors(check, type);
        methods(check, type);
        fields(check, type);
        check.end();
    }

    private static void constructors(Check check, Class<?> type) {
        Constructor<?>[] all = type.getDeclaredConstructors();
        check.due("constructors", all.length, 1);
        check.holds("it is public", Modifier.isPublic(all[0].getModifiers()));
        check.holds("it takes an int", Arrays.equals(all[0].getParameterTypes(), new Class<?>[] {int.class}));
    }

    private static void methods(Check check, Class<?> type) {
        Set<String> due = new TreeSet<>(Arrays.asList(METHODS));
        Set<String> seen = new TreeSet<>();
        for (Method method : type.getDeclaredMethods()) {
            if (Modifier.isPrivate(method.getModifiers())) {
                for (String name : METHODS) {
                    check.holds("private " + method.getName() + " has a name of its own",
                        !name.startsWith(method.getName() + "/"));
                }
                continue;
            }
            seen.add(method.getName() + "/" + method.getParameterCount());
            check.holds(method + " is public, of the object, and answers an int",
                method.getModifiers() == Modifier.PUBLIC && method.getReturnType() == int.class);
            for (Class<?> parameter : method.getParameterTypes()) {
                check.holds(method + " takes ints", parameter == int.class);
            }
        }
        check.holds("methods " + seen, seen.equals(due));
    }

    private static void fields(Check check, Class<?> type) throws ReflectiveOperationException {
        Set<String> seen = new TreeSet<>();
        for (Field field : type.getDeclaredFields()) {
            if (!Modifier.isPrivate(field.getModifiers())) {
                seen.add(field.getName());
            }
        }
        check.holds("constants " + seen, seen.equals(new TreeSet<>(Arrays.asList(CONSTANTS))));
        for (int kind = 0; kind < CONSTANTS.length; kind++) {
            Field field = type.getField(CONSTANTS[kind]);
            check.holds(field + " is a constant int", field.getType() == int.class
                && field.getModifiers() == (Modifier.PUBLIC | Modifier.STATIC | Modifier.FINAL));
            check.due(CONSTANTS[kind], field.getInt(null), kind);
        }
    }
}
