import java.lang.reflect.Constructor;
import java.lang.reflect.Field;
import java.lang.reflect.Member;
import java.lang.reflect.Method;
import java.lang.reflect.Modifier;
import java.util.Arrays;
import java.util.Set;
import java.util.TreeSet;

/** The public face: what the document tells of it, and nothing else. */
public final class FaceTest {
    private static final Set<String> FACE = new TreeSet<>(Set.of(
            "int type(int, int, int, int, int) IllegalStateException",
            "int erase()",
            "int define()",
            "int drop(int) IllegalArgumentException",
            "int place()",
            "void simple(int, int) IllegalArgumentException",
            "void number(int, double) IllegalArgumentException",
            "int text(int, int, int, int) IllegalArgumentException",
            "int add(int, int) IllegalArgumentException IllegalStateException",
            "int call(int, int) IllegalArgumentException",
            "int operation(int, int) IllegalArgumentException",
            "int kind(int)",
            "int item(int, int)",
            "long whole(int, int)",
            "double real(int, int)",
            "char sign(int, int, int)",
            "constructor()",
            "constant NONE", "constant SIGN", "constant SAME", "constant FULL", "constant KIND"));

    public static void main(String[] args) {
        Set<String> found = new TreeSet<>();
        for (Method method : IdlCaller.class.getDeclaredMethods()) {
            if (isSeen(method)) {
                found.add(method.getReturnType().getSimpleName() + " " + method.getName() + list(method.getParameterTypes())
                        + thrown(method));
            }
        }
        for (Constructor<?> constructor : IdlCaller.class.getDeclaredConstructors()) {
            if (isSeen(constructor)) {
                found.add("constructor" + list(constructor.getParameterTypes()));
            }
        }
        for (Field field : IdlCaller.class.getDeclaredFields()) {
            if (isSeen(field)) {
                found.add((field.getModifiers() == (Modifier.PUBLIC | Modifier.STATIC | Modifier.FINAL) ? "constant " : "field ")
                        + field.getName());
            }
        }
        Check.dueText("the face", found.toString(), FACE.toString());
        Check.due("public and final", IdlCaller.class.getModifiers(), Modifier.PUBLIC | Modifier.FINAL);
        Check.end("FaceTest");
    }

    private static boolean isSeen(Member member) {
        return !Modifier.isPrivate(member.getModifiers()) && !member.isSynthetic();
    }

    private static String list(Class<?>[] types) {
        return "(" + String.join(", ", Arrays.stream(types).map(Class::getSimpleName).toList()) + ")";
    }

    private static String thrown(Method method) {
        return Arrays.stream(method.getExceptionTypes()).map(type -> " " + type.getSimpleName()).reduce("", String::concat);
    }
}
