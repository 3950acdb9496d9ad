import java.lang.reflect.Constructor;
import java.lang.reflect.Field;
import java.lang.reflect.Method;
import java.lang.reflect.Modifier;
import java.util.Set;
import java.util.TreeSet;

/** The document's public face, and those rules of LANGUAGE.md that the members' types show. */
public final class LanguageTest {
    private static final Set<String> FACE = Set.of(
            "variable/1", "constant/1", "join/1", "not/0", "copy/1", "drop/0", "replace/1",
            "products/1", "has/2", "degree/1", "models/1", "differ/2");

    private static final Set<Class<?>> TYPES = Set.of(
            int.class, long.class, short.class, byte.class, char.class, boolean.class, void.class,
            int[].class, long[].class, short[].class, byte[].class, char[].class, boolean[].class);

    public static void main(String[] args) {
        checkClass();
        checkConstructor();
        checkMethods();
        checkFields();
        Due.finish("LanguageTest");
    }

    private static void checkClass() {
        int modifiers = RingProver.class.getModifiers();
        Due.holds("the class is public", Modifier.isPublic(modifiers));
        Due.holds("the class is final", Modifier.isFinal(modifiers));
        Due.due("nested classes", RingProver.class.getDeclaredClasses().length, 0);
        Due.due("interfaces", RingProver.class.getInterfaces().length, 0);
        Due.holds("it extends nothing", RingProver.class.getSuperclass() == Object.class);
    }

    private static void checkConstructor() {
        Constructor<?>[] constructors = RingProver.class.getDeclaredConstructors();
        Due.due("constructors", constructors.length, 1);
        Due.due("its parameters", constructors[0].getParameterCount(), 0);
        Due.holds("it is public", Modifier.isPublic(constructors[0].getModifiers()));
    }

    private static void checkMethods() {
        Set<String> face = new TreeSet<>();
        Set<String> publicNames = new TreeSet<>();
        Set<String> privateNames = new TreeSet<>();
        for (Method method : RingProver.class.getDeclaredMethods()) {
            String name = method.getName();
            checkTypes(method);
            if (Modifier.isPrivate(method.getModifiers())) {
                privateNames.add(name);
            } else {
                face.add(name + "/" + method.getParameterCount());
                publicNames.add(name);
                checkPublic(method);
            }
        }
        Due.holds("the face is the document's, not " + face, face.equals(FACE));
        privateNames.retainAll(publicNames);
        Due.holds("private methods named as public ones: " + privateNames, privateNames.isEmpty());
    }

    private static void checkPublic(Method method) {
        String name = method.getName();
        Due.holds(name + " is public", Modifier.isPublic(method.getModifiers()));
        Due.holds(name + " is not static", !Modifier.isStatic(method.getModifiers()));
        Due.holds(name + " answers an int", method.getReturnType() == int.class);
        for (Class<?> type : method.getParameterTypes()) {
            Due.holds(name + " takes ints", type == int.class);
        }
    }

    private static void checkTypes(Method method) {
        String name = method.getName();
        Due.holds(name + " answers no array", !method.getReturnType().isArray());
        Due.holds(name + " answers a plain type", TYPES.contains(method.getReturnType()));
        Due.holds(name + " takes seven at most", method.getParameterCount() <= 7);
        for (Class<?> type : method.getParameterTypes()) {
            Due.holds(name + " takes plain types", TYPES.contains(type));
        }
    }

    private static void checkFields() {
        for (Field field : RingProver.class.getDeclaredFields()) {
            String name = field.getName();
            int modifiers = field.getModifiers();
            Class<?> type = field.getType();
            Due.holds(name + " is private", Modifier.isPrivate(modifiers));
            Due.holds(name + " has a plain type", TYPES.contains(type));
            if (Modifier.isStatic(modifiers)) {
                Due.holds(name + " is a constant", Modifier.isFinal(modifiers));
                Due.holds(name + " is int or long", type == int.class || type == long.class);
            }
        }
    }
}
