import java.lang.reflect.Constructor;
import java.lang.reflect.Field;
import java.lang.reflect.Method;
import java.lang.reflect.Modifier;
import java.util.Arrays;
import java.util.Set;
import java.util.TreeSet;

/** The public face of the document, and rule 1 of the language. */
public final class FaceTest {
    private static final String[] FACE = {
        "int clear() []",
        "int compile() [IllegalArgumentException, UnsupportedOperationException]",
        "int cut(int) []",
        "int holds() [IllegalStateException]",
        "int instruction(int, int) []",
        "int put(long, int) []",
        "int run() [IllegalStateException]",
        "int set(int, int) []",
        "int state(int) []",
        "int type(long, int) [IllegalArgumentException, IllegalStateException]",
    };

    public static void main(String[] args) {
        Check check = new Check();
        Class<PacketSieve> type = PacketSieve.class;
        check.same("the class is public and final", Modifier.PUBLIC | Modifier.FINAL, type.getModifiers());
        Set<String> open = new TreeSet<>();
        Set<String> names = new TreeSet<>();
        for (Method method : type.getDeclaredMethods()) {
            if (!Modifier.isPrivate(method.getModifiers())) {
                open.add(described(method));
                names.add(method.getName());
            }
        }
        check.same("the open methods", new TreeSet<>(Arrays.asList(FACE)), open);
        for (Constructor<?> constructor : type.getDeclaredConstructors()) {
            check.same("the constructor", "public PacketSieve(int)", constructor.toString());
        }
        for (Field field : type.getDeclaredFields()) {
            check.same("private " + field, true, Modifier.isPrivate(field.getModifiers()));
        }
        for (Class<?> inside : type.getDeclaredClasses()) {
            check.same("static " + inside, true, Modifier.isStatic(inside.getModifiers()));
            methodsInside(check, inside, names);
        }
        methodsInside(check, type, names);
        check.finish();
    }

    private static String described(Method method) {
        String parameters = Arrays.toString(method.getParameterTypes());
        Object[] thrown = Arrays.stream(method.getExceptionTypes()).map(Class::getSimpleName).sorted().toArray();
        return method.getReturnType() + " " + method.getName() + parameters.replace("[", "(").replace("]", ")") + " "
                + Arrays.toString(thrown);
    }

    private static void methodsInside(Check check, Class<?> type, Set<String> names) {
        for (Method method : type.getDeclaredMethods()) {
            if (Modifier.isPrivate(method.getModifiers())) {
                check.same(method + " bears a name of the face", false, names.contains(method.getName()));
            }
            check.same(method + " has at most seven parameters", true, method.getParameterCount() <= 7);
        }
    }
}
