import java.lang.reflect.Field;

/**
 * What check() judges by, seen and set from outside: it tells 1 as long as the sorts keep to their
 * bounds, so no calls of the face alone could show that it would tell 0.
 */
final class Counts {
    private static final Field PAIRS = field("latestPairs");
    private static final Field COMPARES = field("latestCompares");
    private static final Field WRITES = field("latestWrites");

    private Counts() { }

    static int pairs(RowPress x) {
        return get(PAIRS, x);
    }

    static int compares(RowPress x) {
        return get(COMPARES, x);
    }

    static int writes(RowPress x) {
        return get(WRITES, x);
    }

    static void set(RowPress x, int compares, int writes) {
        try {
            COMPARES.setInt(x, compares);
            WRITES.setInt(x, writes);
        } catch (IllegalAccessException e) {
            throw new AssertionError(e);
        }
    }

    private static int get(Field field, RowPress x) {
        try {
            return field.getInt(x);
        } catch (IllegalAccessException e) {
            throw new AssertionError(e);
        }
    }

    private static Field field(String name) {
        try {
            Field field = RowPress.class.getDeclaredField(name);
            field.setAccessible(true);
            return field;
        } catch (NoSuchFieldException e) {
            throw new AssertionError(e);
        }
    }
}
