import java.lang.reflect.InvocationTargetException;
import java.lang.reflect.Method;
import java.util.regex.Matcher;
import java.util.regex.Pattern;

/** A call as it is written, such as "put(0, 7)", made on an object of Holeworks, of whichever loader. */
final class Written {
    private static final Pattern CALL = Pattern.compile("(\\w+)\\((.*)\\)");

    private Written() {
    }

    /** What it answers, as a text; "throws" and the simple name of the exception, if it throws one. */
    static String answerOf(Object works, String call) throws ReflectiveOperationException {
        Matcher parts = CALL.matcher(call);
        if (parts.matches()) {
            for (Method method : works.getClass().getMethods()) {
                if (method.getName().equals(parts.group(1))) {
                    return answerOf(works, method, parts.group(2).split(", "));
                }
            }
        }
        return "no such call";
    }

    private static String answerOf(Object works, Method method, String[] values) throws ReflectiveOperationException {
        try {
            return String.valueOf(method.invoke(works, valuesFor(method, values)));
        } catch (InvocationTargetException e) {
            return "throws " + e.getCause().getClass().getSimpleName();
        }
    }

    private static Object[] valuesFor(Method method, String[] written) {
        Class<?>[] types = method.getParameterTypes();
        Object[] values = new Object[types.length];
        for (int index = 0; index < types.length; index++) {
            boolean isFlag = types[index] == boolean.class;
            values[index] = isFlag ? (Object) Boolean.valueOf(written[index]) : Integer.valueOf(written[index]);
        }
        return values;
    }
}
