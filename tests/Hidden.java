import java.lang.reflect.Field;
import java.lang.reflect.Method;

/** What a house holds inside, for tests that make it wrong. */
final class Hidden {
    private Hidden() {
    }

    private static Field field(Object of, String name) throws ReflectiveOperationException {
        Field field = of.getClass().getDeclaredField(name);
        field.setAccessible(true);
        return field;
    }

    static Object of(Object of, String name) {
        try {
            return field(of, name).get(of);
        } catch (ReflectiveOperationException wrong) {
            throw new IllegalStateException(wrong);
        }
    }

    static int number(Object of, String name) {
        return (Integer) of(of, name);
    }

    static void set(Object of, String name, int number) {
        try {
            field(of, name).setInt(of, number);
        } catch (ReflectiveOperationException wrong) {
            throw new IllegalStateException(wrong);
        }
    }

    /** What a method inside tells of a text. */
    static Object tell(Object of, String name, String text) {
        try {
            Method method = of.getClass().getDeclaredMethod(name, String.class);
            method.setAccessible(true);
            return method.invoke(of, text);
        } catch (ReflectiveOperationException wrong) {
            throw new IllegalStateException(wrong);
        }
    }
}
