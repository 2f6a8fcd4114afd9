import java.lang.reflect.Constructor;
import java.lang.reflect.Field;
import java.lang.reflect.Method;
import java.lang.reflect.Modifier;
import java.util.Arrays;
import java.util.Set;
import java.util.TreeSet;

/**
 * The public face: the document's members with what they declare to throw, and no other; the
 * classes inside are hidden and static, and no private method bears a public one's name.
 */
public final class FaceTest {
    private static final String[] FACE = {
        "int feed(long,int) IllegalArgumentException,IllegalStateException",
        "int read(int) IllegalArgumentException",
        "int place() ",
        "int size(int) IllegalArgumentException",
        "int print(int,int) IllegalArgumentException,IndexOutOfBoundsException",
        "void copy(int,int) IllegalArgumentException",
        "int apply(int,int,int) IllegalArgumentException,IllegalStateException",
        "int bind(int,int) IllegalArgumentException,IllegalStateException",
        "int redexes(int) IllegalArgumentException,IllegalStateException",
        "int reduce(int,int) IllegalArgumentException,IllegalStateException",
        "int how() ",
        "int abstracted(int) IllegalArgumentException,IllegalStateException",
        "int numeral(int,int) IllegalArgumentException,IllegalStateException",
        "boolean same(int,int) IllegalArgumentException",
        "boolean has(int,int) IllegalArgumentException",
    };

    public static void main(String[] args) {
        Checks checks = new Checks();
        int modifiers = LambdaBench.class.getModifiers();
        checks.due("public final", Modifier.isPublic(modifiers) && Modifier.isFinal(modifiers), true);

        Set<String> visible = new TreeSet<>();
        for (Method method : LambdaBench.class.getDeclaredMethods()) {
            if (!Modifier.isPrivate(method.getModifiers()) && !method.isSynthetic()) {
                visible.add(describe(method));
            }
        }
        checks.due("methods", visible, new TreeSet<>(Arrays.asList(FACE)));

        for (Field field : LambdaBench.class.getDeclaredFields()) {
            checks.due("private " + field, Modifier.isPrivate(field.getModifiers()), true);
        }
        Constructor<?>[] constructors = LambdaBench.class.getDeclaredConstructors();
        checks.due("constructors", Arrays.toString(constructors), "[public LambdaBench()]");

        checkPrivateNames(checks, LambdaBench.class);
        for (Class<?> inside : LambdaBench.class.getDeclaredClasses()) {
            checks.due("hidden " + inside, isHiddenAndStatic(inside.getModifiers()), true);
            checkPrivateNames(checks, inside);
        }
        checks.end();
    }

    private static boolean isHiddenAndStatic(int modifiers) {
        boolean shown = Modifier.isPublic(modifiers) || Modifier.isProtected(modifiers);
        return !shown && Modifier.isStatic(modifiers);
    }

    /** The language's first rule: no private method bears the name of a public one. */
    private static void checkPrivateNames(Checks checks, Class<?> type) {
        for (Method method : type.getDeclaredMethods()) {
            if (Modifier.isPrivate(method.getModifiers())) {
                checks.due("own name of " + method, isOfFace(method.getName()), false);
            }
        }
    }

    private static boolean isOfFace(String name) {
        return Arrays.stream(FACE).anyMatch(row -> row.contains(" " + name + "("));
    }

    private static String describe(Method method) {
        String shown = Modifier.isPublic(method.getModifiers()) ? "" : "not public: ";
        return shown + method.getReturnType().getSimpleName() + " " + method.getName()
            + "(" + names(method.getParameterTypes()) + ") " + names(method.getExceptionTypes());
    }

    private static String names(Class<?>[] types) {
        StringBuilder names = new StringBuilder();
        for (Class<?> type : types) {
            names.append(names.length() == 0 ? "" : ",").append(type.getSimpleName());
        }
        return names.toString();
    }
}
