import java.lang.reflect.Constructor;
import java.lang.reflect.Field;
import java.lang.reflect.Method;
import java.lang.reflect.Modifier;
import java.util.Arrays;
import java.util.Set;
import java.util.TreeSet;

/** The public face of the document, and rule 1 of the language. */
public final class FaceTest {
    private static final String[] FACE = {
        "int clear() []",
        "int compile() [IllegalArgumentException, UnsupportedOperationException]",
        "int cut(int) []",
        "int holds() [IllegalStateException]",
        "int instruction(int, int) []",
        "int put(long, int) []",
        "int run() [IllegalStateException]",
        "int set(int, int) []",
        "int state(int) []",
        "int type(long, int) [IllegalArgumentException, IllegalStateException]",
    };

    private final Check check = new Check();

    public static void main(String[] args) {
        new FaceTest().test(PacketSieve.class);
    }

    private void test(Class<?> type) {
        check.same("the class is public and final", Modifier.PUBLIC | Modifier.FINAL, type.getModifiers());
        methods(type);
        for (Constructor<?> constructor : type.getDeclaredConstructors()) {
            check.same("the constructor", "public PacketSieve(int)", constructor.toString());
        }
        for (Field field : type.getDeclaredFields()) {
            check.same("private " + field, true, Modifier.isPrivate(field.getModifiers()));
        }
        for (Class<?> inside : type.getDeclaredClasses()) {
            check.same("static " + inside, true, Modifier.isStatic(inside.getModifiers()));
            check.same("private or package-visible " + inside, 0, inside.getModifiers() & (Modifier.PUBLIC | Modifier.PROTECTED));
            fewParameters(inside);
        }
        fewParameters(type);
        check.finish();
    }

    private void methods(Class<?> type) {
        Set<String> open = new TreeSet<>();
        Set<String> openNames = new TreeSet<>();
        Set<String> privateNames = new TreeSet<>();
        for (Method method : type.getDeclaredMethods()) {
            if (Modifier.isPrivate(method.getModifiers())) {
                privateNames.add(method.getName());
            } else if (!method.isSynthetic()) {
                open.add(described(method));
                openNames.add(method.getName());
            }
        }
        check.same("the open methods", new TreeSet<>(Arrays.asList(FACE)), open);
        privateNames.retainAll(openNames);
        check.same("the private methods with a name of the face", new TreeSet<String>(), privateNames);
    }

    private static String described(Method method) {
        String parameters = Arrays.toString(method.getParameterTypes());
        Object[] thrown = Arrays.stream(method.getExceptionTypes()).map(Class::getSimpleName).sorted().toArray();
        return method.getReturnType() + " " + method.getName() + parameters.replace("[", "(").replace("]", ")") + " "
                + Arrays.toString(thrown);
    }

    private void fewParameters(Class<?> type) {
        for (Method method : type.getDeclaredMethods()) {
            check.same(method + " has at most seven parameters", true, method.getParameterCount() <= 7);
        }
    }
}
