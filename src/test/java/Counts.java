import java.lang.reflect.Field;

/**
 * What check() judges by, seen and set from outside: it tells 1 as long as the sorts keep to their
 * bounds, so no calls of the face alone could show that it would tell 0.
 */
final class Counts {
    private static final Field PAIRS = field("latestPairs");
    private static final Field COMPARES = field("latestCompares");
    private static final Field WRITES = field("latestWrites");

    private Counts() { }

    static int pairs(Press x) {
        return get(PAIRS, x);
    }

    static int compares(Press x) {
        return get(COMPARES, x);
    }

    static int writes(Press x) {
        return get(WRITES, x);
    }

    static void set(Press x, int compares, int writes) {
        x.meddle(object -> {
            put(COMPARES, object, compares);
            put(WRITES, object, writes);
        });
    }

    private static void put(Field field, RowPress object, int count) {
        try {
            field.setInt(object, count);
        } catch (IllegalAccessException e) {
            throw new AssertionError(e);
        }
    }

    private static int get(Field field, Press x) {
        try {
            return field.getInt(x.object());
        } catch (IllegalAccessException e) {
            throw new AssertionError(e);
        }
    }

    private static Field field(String name) {
        try {
            Field field = RowPress.class.getDeclaredField(name);
            field.setAccessible(true);
            return field;
        } catch (NoSuchFieldException e) {
            throw new AssertionError(e);
        }
    }
}
