import java.lang.reflect.Constructor;
import java.lang.reflect.Field;
import java.lang.reflect.Method;
import java.lang.reflect.Modifier;
import java.util.Set;
import java.util.TreeSet;

/** The document's public face, and rules 1, 2, 5 and 10 of LANGUAGE.md as far as reflection sees them. */
public final class FaceTest {
    private static final Set<String> FACE = Set.of(
        "int addRule(int, int)", "int dropRule(int)", "int add(int, int, int)", "int remove(int, int, int)",
        "boolean holds(int, int, int)", "boolean isFact(int, int, int)", "int count(int)", "int gained()",
        "int lost()", "int from(int, int)");
    private static final Set<String> CONSTANTS =
        Set.of("COPY", "TURN", "JOIN", "BOTH", "MINUS", "BAD", "FULL", "CIRCLE");
    private static final Set<Class<?>> TYPES = Set.of(int.class, long.class, short.class, byte.class,
        char.class, boolean.class, int[].class, long[].class, short[].class, byte[].class, char[].class,
        boolean[].class);

    public static void main(String[] args) {
        Class<?> face = DatalogDelta.class;
        Check.same("class is public and final",
            Modifier.isPublic(face.getModifiers()) && Modifier.isFinal(face.getModifiers()), true);
        Check.same("nested classes", face.getDeclaredClasses().length, 0);
        methods(face);
        fields(face);
        Constructor<?>[] constructors = face.getDeclaredConstructors();
        Check.same("constructors", constructors.length, 1);
        Check.same("constructor's parameters", constructors[0].getParameterCount(), 0);
        Check.same("constructor is public", Modifier.isPublic(constructors[0].getModifiers()), true);
        Check.finish();
    }

    private static void methods(Class<?> face) {
        Set<String> seen = new TreeSet<>();
        Set<String> names = new TreeSet<>();
        for (Method method : face.getDeclaredMethods()) {
            if (Modifier.isPublic(method.getModifiers())) {
                seen.add(told(method));
                names.add(method.getName());
            }
        }
        Check.same("the public methods are " + seen + ", and that", seen.equals(FACE), true);
        for (Method method : face.getDeclaredMethods()) {
            int modifiers = method.getModifiers();
            String name = method.getName();
            if (!Modifier.isPublic(modifiers)) {
                Check.same(name + " is private", Modifier.isPrivate(modifiers), true);
                Check.same(name + " bears a public name", names.contains(name), false);
            }
            Check.same(name + " has at most 7 parameters", method.getParameterCount() <= 7, true);
            Check.same(name + " answers an array", method.getReturnType().isArray(), false);
            for (Class<?> type : method.getParameterTypes()) {
                Check.same(name + " takes allowed types", TYPES.contains(type), true);
            }
        }
    }

    private static String told(Method method) {
        StringBuilder text = new StringBuilder(method.getReturnType().getName() + " " + method.getName() + "(");
        String comma = "";
        for (Class<?> type : method.getParameterTypes()) {
            text.append(comma).append(type.getName());
            comma = ", ";
        }
        return text.append(")").toString();
    }

    private static void fields(Class<?> face) {
        Set<String> constants = new TreeSet<>();
        int others = 0;
        for (Field field : face.getDeclaredFields()) {
            int modifiers = field.getModifiers();
            String name = field.getName();
            Check.same(name + " has an allowed type", TYPES.contains(field.getType()), true);
            if (Modifier.isStatic(modifiers)) {
                Check.same(name + " is a constant", Modifier.isFinal(modifiers), true);
                Check.same(name + " is a number", field.getType() == int.class || field.getType() == long.class, true);
            } else {
                others++;
            }
            if (Modifier.isPublic(modifiers)) {
                constants.add(name);
            } else {
                Check.same(name + " is private", Modifier.isPrivate(modifiers), true);
            }
        }
        Check.same("the public constants are " + constants + ", and that", constants.equals(CONSTANTS), true);
        Check.same("at most 40 fields", others <= 40, true);
    }
}
