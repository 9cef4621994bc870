import java.lang.reflect.Constructor;
import java.lang.reflect.Field;
import java.lang.reflect.Method;
import java.lang.reflect.Modifier;
import java.util.Arrays;
import java.util.Set;
import java.util.TreeSet;
import java.util.stream.Collectors;

/** The public face of the document, no more and no less, and rule 1 of LANGUAGE.md. */
public final class FaceTest {
    private static final String STATE = "IllegalStateException";
    private static final String ARGUMENT = "IllegalArgumentException";
    private static final Set<String> DUE = new TreeSet<>(Set.of(
            "public static final int NONE",
            "public ExactFilter()",
            "public void begin(int) throws " + ARGUMENT,
            "public void set(int, int, int, int, int) throws " + ARGUMENT,
            "public void start() throws " + STATE,
            "public int predict() throws " + STATE,
            "public int measure(int, int) throws " + ARGUMENT + ", " + STATE + ", ArithmeticException",
            "public int sign(int, int, int) throws " + STATE + ", " + ARGUMENT,
            "public int pieces(int, int, int, int) throws " + STATE + ", " + ARGUMENT,
            "public int piece(int, int, int, int, int) throws " + STATE + ", " + ARGUMENT,
            "public long scaled(int, int, int, int) throws " + STATE + ", " + ARGUMENT,
            "public int compare(int, int, int, int, int) throws " + STATE + ", " + ARGUMENT,
            "public int about(int)"));

    public static void main(String[] args) {
        Checks checks = new Checks();
        Class<?> face = ExactFilter.class;
        checks.same("the class", "public final", Modifier.toString(face.getModifiers()));
        checks.same("its face", DUE.toString(), members(face).toString());
        Set<String> publicNames = new TreeSet<>();
        for (Method method : face.getMethods()) {
            if (method.getDeclaringClass() == face) {
                publicNames.add(method.getName());
            }
        }
        checks.same("private methods with public names in the class", "[]", privateNames(face, publicNames));
        for (Class<?> inside : face.getDeclaredClasses()) {
            int modifiers = inside.getModifiers();
            boolean right = Modifier.isStatic(modifiers)
                    && !Modifier.isPublic(modifiers) && !Modifier.isProtected(modifiers);
            checks.same(inside.getName() + " is static and not public", "true", Boolean.toString(right));
            checks.same("private methods with public names in " + inside.getName(), "[]",
                    privateNames(inside, publicNames));
        }
        checks.end();
    }

    private static Set<String> members(Class<?> face) {
        Set<String> found = new TreeSet<>();
        for (Field field : face.getDeclaredFields()) {
            if (!Modifier.isPrivate(field.getModifiers())) {
                found.add(Modifier.toString(field.getModifiers()) + " " + field.getType() + " " + field.getName());
            }
        }
        for (Constructor<?> constructor : face.getDeclaredConstructors()) {
            if (!Modifier.isPrivate(constructor.getModifiers())) {
                found.add(Modifier.toString(constructor.getModifiers()) + " " + constructor.getName()
                        + "(" + names(constructor.getParameterTypes()) + ")");
            }
        }
        for (Method method : face.getDeclaredMethods()) {
            if (!Modifier.isPrivate(method.getModifiers())) {
                String thrown = names(method.getExceptionTypes());
                found.add(Modifier.toString(method.getModifiers()) + " " + method.getReturnType() + " "
                        + method.getName() + "(" + names(method.getParameterTypes()) + ")"
                        + (thrown.isEmpty() ? "" : " throws " + thrown));
            }
        }
        return found;
    }

    private static String names(Class<?>[] types) {
        return Arrays.stream(types).map(Class::getSimpleName).collect(Collectors.joining(", "));
    }

    private static String privateNames(Class<?> type, Set<String> publicNames) {
        Set<String> found = new TreeSet<>();
        for (Method method : type.getDeclaredMethods()) {
            if (!Modifier.isPublic(method.getModifiers()) && publicNames.contains(method.getName())) {
                found.add(method.getName());
            }
        }
        return found.toString();
    }
}
