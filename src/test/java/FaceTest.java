import java.lang.reflect.Constructor;
import java.lang.reflect.Field;
import java.lang.reflect.Method;
import java.lang.reflect.Modifier;
import java.util.Arrays;
import java.util.TreeSet;

/** The face: the public members of the document, with what they say they throw, and no others. */
public final class FaceTest {
    private static final String[] DUE = {
        "int begin(int, int) IllegalArgumentException",
        "double set(int, int, int, double) IllegalArgumentException IndexOutOfBoundsException",
        "boolean scaling(boolean)",
        "int text(long) IllegalArgumentException IllegalStateException",
        "int read() IllegalArgumentException",
        "int where()",
        "int interior(int) IllegalArgumentException ArithmeticException",
        "int simplex()",
        "double told(int, int) IllegalArgumentException IllegalStateException IndexOutOfBoundsException",
        "int effort()",
        "double gap(int) IllegalArgumentException IllegalStateException",
        "boolean certifies(int, double) IllegalArgumentException IllegalStateException",
        "int count(int) IllegalArgumentException",
        "double scale(int, int) IllegalArgumentException IndexOutOfBoundsException",
    };

    public static void main(String[] args) {
        Check check = new Check();
        check.same("class is public and final",
                ConeForge.class.getModifiers() == (Modifier.PUBLIC | Modifier.FINAL), true);
        TreeSet<String> due = new TreeSet<>(Arrays.asList(DUE));
        TreeSet<String> names = new TreeSet<>();
        TreeSet<String> hidden = new TreeSet<>();
        for (Method method : ConeForge.class.getDeclaredMethods()) {
            if (Modifier.isPrivate(method.getModifiers())) {
                hidden.add(method.getName());
            } else {
                names.add(method.getName());
                check.same(told(method) + " is of the face", due.remove(told(method)), true);
            }
        }
        check.same("methods missing: " + due, due.size(), 0);
        hidden.retainAll(names);
        check.same("private methods with public names: " + hidden, hidden.size(), 0);
        Constructor<?>[] constructors = ConeForge.class.getDeclaredConstructors();
        check.same("constructors", constructors.length, 1);
        check.same("constructor's parameters", constructors[0].getParameterCount(), 0);
        check.same("constructor is public", Modifier.isPublic(constructors[0].getModifiers()), true);
        for (Field field : ConeForge.class.getDeclaredFields()) {
            check.same(field.getName() + " is private", Modifier.isPrivate(field.getModifiers()), true);
        }
        for (Class<?> inside : ConeForge.class.getDeclaredClasses()) {
            check.same(inside.getName() + " is static", Modifier.isStatic(inside.getModifiers()), true);
        }
        check.end();
    }

    private static String told(Method method) {
        StringBuilder text = new StringBuilder();
        text.append(method.getReturnType().getName()).append(' ').append(method.getName()).append('(');
        for (int k = 0; k < method.getParameterCount(); k++) {
            text.append(k == 0 ? "" : ", ").append(method.getParameterTypes()[k].getName());
        }
        text.append(')');
        for (Class<?> thrown : method.getExceptionTypes()) {
            text.append(' ').append(thrown.getSimpleName());
        }
        return text.toString();
    }
}
