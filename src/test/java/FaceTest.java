import java.lang.reflect.Constructor;
import java.lang.reflect.Field;
import java.lang.reflect.Method;
import java.lang.reflect.Modifier;
import java.util.Arrays;
import java.util.HashSet;
import java.util.Set;
import java.util.TreeSet;

/** The public face of the document and no more, and what of LANGUAGE.md can be seen in the compiled class. */
final class FaceTest {
    private static final Set<String> FACE = new TreeSet<>(Arrays.asList(
            "ListDecoder(int, int)",
            "length()", "dimension()", "put(int, int)", "disturb(int, int)", "erase(int)",
            "write(int, int, int, int)", "symbolAt(int)", "received()", "lowestThreshold()", "decode(int)",
            "size()", "coefficient(int, int)", "agreement(int)", "find(int, int, int)", "best()", "correct(int)",
            "OK", "NONE", "BAD_POSITION", "BAD_SYMBOL", "BAD_MESSAGE", "BAD_MASK", "BAD_THRESHOLD", "NO_LIST",
            "BAD_INDEX", "BAD_DEGREE"));
    private static final Set<Class<?>> TYPES = new HashSet<>(Arrays.asList(
            int.class, long.class, short.class, byte.class, char.class, boolean.class,
            int[].class, long[].class, short[].class, byte[].class, char[].class, boolean[].class));

    public static void main(String[] args) {
        Class<ListDecoder> type = ListDecoder.class;
        holds("the class is public and final",
                Modifier.isPublic(type.getModifiers()) && Modifier.isFinal(type.getModifiers()));
        holds("the class has no superclass but Object", type.getSuperclass() == Object.class);
        holds("the class implements nothing", type.getInterfaces().length == 0);
        holds("the class has no nested class", type.getDeclaredClasses().length == 0);
        holds("the class has no package", type.getPackageName().isEmpty());
        Set<String> seen = new TreeSet<>();
        constructors(type, seen);
        methods(type, seen);
        fields(type, seen);
        holds("the public face is " + FACE + ", not " + seen, seen.equals(FACE));
        Due.end();
    }

    private static void holds(String what, boolean value) {
        Due.due(what, value ? 1 : 0, 1);
    }

    private static String parameters(Class<?>[] types) {
        StringBuilder text = new StringBuilder();
        for (Class<?> type : types) {
            text.append(text.length() == 0 ? "" : ", ").append(type.getName());
        }
        return "(" + text + ")";
    }

    private static void constructors(Class<?> type, Set<String> seen) {
        for (Constructor<?> constructor : type.getDeclaredConstructors()) {
            seen.add("ListDecoder" + parameters(constructor.getParameterTypes()));
            holds("the constructor is public", Modifier.isPublic(constructor.getModifiers()));
        }
    }

    private static void methods(Class<?> type, Set<String> seen) {
        Set<String> names = new HashSet<>();
        for (Method method : type.getDeclaredMethods()) {
            names.add(method.getName());
            holds(method.getName() + " has at most seven parameters", method.getParameterCount() <= 7);
            holds(method.getName() + " takes numbers and arrays of them alone",
                    TYPES.containsAll(Arrays.asList(method.getParameterTypes())));
            if (Modifier.isPrivate(method.getModifiers())) {
                holds(method.getName() + " answers no array", !method.getReturnType().isArray());
                continue;
            }
            seen.add(method.getName() + parameters(method.getParameterTypes()));
            holds(method.getName() + " is public and of the object",
                    Modifier.isPublic(method.getModifiers()) && !Modifier.isStatic(method.getModifiers()));
            holds(method.getName() + " answers an int", method.getReturnType() == int.class);
        }
        holds("no two methods have one name", names.size() == type.getDeclaredMethods().length);
    }

    private static void fields(Class<?> type, Set<String> seen) {
        int ofObject = 0;
        for (Field field : type.getDeclaredFields()) {
            int modifiers = field.getModifiers();
            holds(field.getName() + " is of an allowed type", TYPES.contains(field.getType()));
            if (Modifier.isStatic(modifiers)) {
                holds(field.getName() + " is a constant number", Modifier.isFinal(modifiers)
                        && (field.getType() == int.class || field.getType() == long.class));
            } else {
                ofObject++;
                holds(field.getName() + " is private", Modifier.isPrivate(modifiers));
            }
            if (!Modifier.isPrivate(modifiers)) {
                seen.add(field.getName());
                holds(field.getName() + " is public", Modifier.isPublic(modifiers));
            }
        }
        holds("there are at most forty fields", ofObject <= 40);
    }
}
