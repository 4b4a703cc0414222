import java.lang.reflect.Constructor;
import java.lang.reflect.Field;
import java.lang.reflect.Method;
import java.lang.reflect.Modifier;
import java.util.Arrays;
import java.util.Map;
import java.util.Set;
import java.util.TreeMap;
import java.util.TreeSet;

/** The face is the one of the document, and nothing else is to be seen of the class. */
public final class FaceTests {
    private static final Map<String, Integer> CONSTANTS = Map.of("INVALID_ARGUMENT", -1000001,
        "NOT_POSSIBLE", -1000002, "LIMIT_REACHED", -1000003, "NOT_FOUND", -1000004);
    private static final Set<String> METHODS = Set.of("note 2", "colour 2", "bring 1", "tear 1", "swap 2", "turn 0",
        "mirror 0", "set 2", "cardOf 2", "threadOf 2", "toneOf 2", "barOf 2", "alike 1", "would 1", "best 1", "key 1",
        "like 1", "mean 0", "count 1", "undo 0", "type 1", "clearText 0", "fault 1", "play 0");

    public static void main(String[] args) throws IllegalAccessException {
        Checks checks = new Checks("FaceTests");
        checks.that("public and final", LoomTunes.class.getModifiers() == (Modifier.PUBLIC | Modifier.FINAL));
        Map<String, Integer> constants = new TreeMap<>();
        for (Field field : LoomTunes.class.getDeclaredFields()) {
            if (Modifier.isPublic(field.getModifiers())) {
                checks.that("static and final: " + field, Modifier.isStatic(field.getModifiers())
                    && Modifier.isFinal(field.getModifiers()) && field.getType() == int.class);
                constants.put(field.getName(), field.getInt(null));
            } else {
                checks.that("private: " + field, Modifier.isPrivate(field.getModifiers()));
            }
        }
        checks.that("the constants: " + constants, constants.equals(CONSTANTS));
        Set<String> methods = new TreeSet<>();
        for (Method method : LoomTunes.class.getDeclaredMethods()) {
            if (Modifier.isPublic(method.getModifiers())) {
                methods.add(method.getName() + " " + method.getParameterCount());
                checks.that("of the object, with ints alone: " + method, isPlain(method));
            } else {
                checks.that("private: " + method, Modifier.isPrivate(method.getModifiers()));
                checks.that("no private one with the name of a public one: " + method, !isNameOfAPublicOne(method));
            }
        }
        checks.that("the methods: " + methods, methods.equals(METHODS));
        Constructor<?>[] constructors = LoomTunes.class.getDeclaredConstructors();
        checks.that("one public constructor without parameters", constructors.length == 1
            && Modifier.isPublic(constructors[0].getModifiers()) && constructors[0].getParameterCount() == 0);
        for (Class<?> inside : LoomTunes.class.getDeclaredClasses()) {
            checkInside(checks, inside);
        }
        checks.that("some twelve classes", LoomTunes.class.getDeclaredClasses().length <= 14);
        checks.end();
    }

    private static boolean isPlain(Method method) {
        return !Modifier.isStatic(method.getModifiers()) && method.getReturnType() == int.class
            && Arrays.stream(method.getParameterTypes()).allMatch(type -> type == int.class);
    }

    private static void checkInside(Checks checks, Class<?> inside) {
        int modifiers = inside.getModifiers();
        checks.that("static and not public: " + inside,
            Modifier.isStatic(modifiers) && !Modifier.isPublic(modifiers) && !Modifier.isProtected(modifiers));
        for (Method method : inside.getDeclaredMethods()) {
            checks.that("no private one with the name of a public one: " + method,
                !Modifier.isPrivate(method.getModifiers()) || !isNameOfAPublicOne(method));
        }
        for (Field field : inside.getDeclaredFields()) {
            checks.that("static fields are final: " + field,
                !Modifier.isStatic(field.getModifiers()) || Modifier.isFinal(field.getModifiers()));
        }
        checks.that("some twenty fields beside its constants: " + inside, Arrays.stream(inside.getDeclaredFields())
            .filter(field -> !Modifier.isStatic(field.getModifiers())).count() <= 24);
    }

    private static boolean isNameOfAPublicOne(Method method) {
        return METHODS.stream().anyMatch(known -> known.startsWith(method.getName() + " "));
    }
}
