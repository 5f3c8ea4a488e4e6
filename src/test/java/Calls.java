import java.lang.reflect.InvocationTargetException;
import java.lang.reflect.Method;
import java.util.NoSuchElementException;

/** One call, told by its name and its numbers (a boolean counts 1 or 0), asked of the class and of the model alike. */
final class Calls {
    private Calls() {
    }

    interface Asked {
        long answer();
    }

    /** The answer, or the simple name of what was thrown. */
    static String outcome(Asked asked) {
        try {
            return Long.toString(asked.answer());
        } catch (IndexOutOfBoundsException | IllegalArgumentException | IllegalStateException
                | NoSuchElementException thrown) {
            return thrown.getClass().getSimpleName();
        }
    }

    static long ask(Object x, String name, int[] numbers) {
        Method method = methodOf(x.getClass(), name);
        Class<?>[] types = method.getParameterTypes();
        Object[] told = new Object[types.length];
        for (int i = 0; i < types.length; i++) {
            told[i] = types[i] == boolean.class ? (Object) (numbers[i] != 0) : (Object) numbers[i];
        }
        try {
            Object answer = method.invoke(x, told);
            if (answer instanceof Boolean b) {
                return b ? 1 : 0;
            }
            return answer instanceof Number n ? n.longValue() : 0;
        } catch (InvocationTargetException thrown) {
            if (thrown.getCause() instanceof RuntimeException cause) {
                throw cause;
            }
            throw new AssertionError(thrown.getCause());
        } catch (IllegalAccessException never) {
            throw new AssertionError(never);
        }
    }

    private static Method methodOf(Class<?> type, String name) {
        for (Method method : type.getDeclaredMethods()) {
            if (method.getName().equals(name)) {
                return method;
            }
        }
        throw new AssertionError(name);
    }
}
