import java.lang.reflect.Constructor;
import java.lang.reflect.Field;
import java.lang.reflect.Method;
import java.lang.reflect.Modifier;
import java.util.TreeSet;

/** The face of the class is that of the document, and nothing else of it can be seen. */
public final class PublicFaceTest {
    private static final String I = " throws IndexOutOfBoundsException";
    private static final String IA = I + " IllegalArgumentException";
    private static final String IAN = IA + " NoSuchElementException";
    private static final String IAS = IA + " IllegalStateException";

    private static final String[] METHODS = {
        "int put(int int)" + IA, "int take(int int)" + IAN, "int clear(int)" + I, "int copy(int int)" + I,
        "int unite(int int int)" + I, "int meet(int int int)" + I, "int full(int boolean int)" + IA,
        "int low(int int int)" + IA, "int about(int int boolean int)" + IAN, "int cone(int int int)" + IAS,
        "int lift(int int int int)" + IAS, "int other(int int int)" + IAS, "int exchange(int int int int)" + IA,
        "int fold(int int)" + IAN + " IllegalStateException", "boolean has(int int)" + IA, "int size(int)" + I,
        "int faces(int int)" + IA, "int corners(int)" + I, "int over(int int)" + IAN, "int greatest(int)" + I,
        "int greatestAt(int int)" + I, "boolean isSame(int int)" + I, "boolean contains(int int)" + I,
        "int pieces(int)" + I, "boolean areJoined(int int int)" + IAN, "int free(int int)" + IA,
        "int holes(int int)" + IA, "int signed(int)" + I,
        "int flip(int) throws IllegalArgumentException IllegalStateException", "int border()", "int drop()",
        "int rowAt(int)" + I, "boolean isRound()", "boolean fills(int)" + I + " IllegalStateException",
        "double mean(int)" + I + " NoSuchElementException", "float share(int)" + I, "long checksum()",
        "boolean isSound(int)" + I, "boolean isTrue(int int int)" + IA, "boolean faceIsTrue(int int)" + IAN,
        "boolean pairIsTrue(int int)" + I,
    };

    public static void main(String[] args) {
        Check check = new Check("PublicFaceTest");
        TreeSet<String> due = new TreeSet<>(java.util.List.of(METHODS));
        TreeSet<String> seen = new TreeSet<>();
        TreeSet<String> hidden = new TreeSet<>();
        for (Method method : Holeworks.class.getDeclaredMethods()) {
            if (Modifier.isPublic(method.getModifiers())) {
                seen.add(written(method));
            } else if (!method.isSynthetic()) {
                check.same(method.getName() + " is private", true, Modifier.isPrivate(method.getModifiers()));
                hidden.add(method.getName());
            }
        }
        check.same("the methods", due, seen);
        for (Method method : Holeworks.class.getMethods()) {
            check.same("a hidden name " + method.getName(), false, hidden.contains(method.getName()));
        }
        for (Field field : Holeworks.class.getDeclaredFields()) {
            int modifiers = field.getModifiers();
            check.same(field.getName() + " is private", true, Modifier.isPrivate(modifiers) || field.isSynthetic());
            check.same(field.getName() + " is kept by an object, or final", true,
                    Modifier.isFinal(modifiers) || !Modifier.isStatic(modifiers));
        }
        Constructor<?>[] constructors = Holeworks.class.getDeclaredConstructors();
        check.same("constructors", 1, constructors.length);
        check.same("its constructor", "public Holeworks()", constructors[0].toString());
        check.same("the class", Modifier.PUBLIC | Modifier.FINAL, Holeworks.class.getModifiers());
        for (Class<?> inside : Holeworks.class.getDeclaredClasses()) {
            int modifiers = inside.getModifiers();
            check.same(inside + " is hidden", false, Modifier.isPublic(modifiers) || Modifier.isProtected(modifiers));
        }
        check.end();
    }

    private static String written(Method method) {
        StringBuilder text = new StringBuilder();
        text.append(method.getReturnType().getSimpleName()).append(' ').append(method.getName()).append('(');
        String gap = "";
        for (Class<?> type : method.getParameterTypes()) {
            text.append(gap).append(type.getSimpleName());
            gap = " ";
        }
        text.append(')');
        gap = " throws ";
        for (Class<?> type : method.getExceptionTypes()) {
            text.append(gap).append(type.getSimpleName());
            gap = " ";
        }
        return text.toString();
    }
}
