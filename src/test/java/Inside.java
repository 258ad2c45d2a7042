import java.lang.reflect.Field;

/**
 * Puts a desk into states that no 512 calls reach, so that the ends of NOW and of LOST can be held
 * against the document without a call that it leaves free.
 */
final class Inside {
    private Inside() {
    }

    static void setNow(Desk d, int now) {
        set(d.inner, "now", now);
    }

    static void setGot(Desk d, int s, int got) {
        set(numbers(d, s), "got", got);
    }

    static void setRounds(Desk d, int s, int rounds) {
        set(numbers(d, s), "rounds", rounds);
    }

    private static Object numbers(Desk d, int s) {
        Object[] senders = (Object[]) get(d.inner, "senders");
        return get(senders[s], "numbers");
    }

    private static Field field(Object of, String name) throws NoSuchFieldException {
        Field f = of.getClass().getDeclaredField(name);
        f.setAccessible(true);
        return f;
    }

    private static Object get(Object of, String name) {
        try {
            return field(of, name).get(of);
        } catch (ReflectiveOperationException e) {
            throw new IllegalStateException(e);
        }
    }

    private static void set(Object of, String name, int value) {
        try {
            field(of, name).setInt(of, value);
        } catch (ReflectiveOperationException e) {
            throw new IllegalStateException(e);
        }
    }
}
