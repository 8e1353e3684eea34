import java.lang.reflect.Field;

/**
 * Promise 18. Since check() tells 1 as long as the sorts keep to their bounds, the counts are read
 * and set from outside here: to see that they are counts, and that check() would tell 0.
 */
public final class CheckTest {
    private static final Due due = new Due();
    private static long seed = 7L;

    public static void main(String[] args) throws ReflectiveOperationException {
        for (int n = 0; n <= 500; n++) {
            sortsOf(n);
            tellsZero(n);
        }
        for (int n = 2; n <= 500; n += n < 40 ? 1 : 23) {
            mergesOf(n);
        }
        onlyTheLatest();
        due.end();
    }

    private static int levels(int n) {
        int levels = 0;
        while (Math.pow(2, levels) < n) {
            levels++;
        }
        return Math.max(levels, 1);
    }

    private static Field field(String name) throws ReflectiveOperationException {
        Field field = RowPress.class.getDeclaredField(name);
        field.setAccessible(true);
        return field;
    }

    private static int get(RowPress x, String name) throws ReflectiveOperationException {
        return field(name).getInt(x);
    }

    private static int random(int bound) {
        seed = seed * 6364136223846793005L + 1442695040888963407L;
        return (int) ((seed >>> 33) % bound);
    }

    private static int key(int shape, int i, int n) {
        return switch (shape) {
            case 0 -> i;
            case 1 -> -i;
            case 2 -> i % 2 == 0 ? i : n - i;
            case 3 -> random(4);
            case 4 -> Integer.reverse(i);
            default -> random(1 << 30);
        };
    }

    private static void sortsOf(int n) throws ReflectiveOperationException {
        for (int shape = 0; shape < 6; shape++) {
            for (int order = 0; order < 4; order++) {
                RowPress x = new RowPress();
                int[] before = new int[n];
                for (int i = 0; i < n; i++) {
                    before[i] = key(shape, i, n);
                    x.put(before[i], i);
                }
                x.sort(order);
                bounds("sort(" + order + ") of " + n + " in shape " + shape, x, before, 0);
            }
        }
    }

    private static void mergesOf(int n) throws ReflectiveOperationException {
        // One pair before the stretch, where the row has room for it.
        int from = n < 500 ? 1 : 0;
        for (int mid = 0; mid <= n; mid++) {
            for (int shape = 0; shape < 6; shape++) {
                RowPress x = new RowPress();
                for (int i = -from; i < n; i++) {
                    x.put(key(shape, i, n), i);
                }
                x.sortPart(from, from + mid, 0);
                x.sortPart(from + mid, from + n, 0);
                int[] before = new int[n];
                for (int i = 0; i < n; i++) {
                    before[i] = x.key(from + i);
                }
                due.is("merge", x.merge(from, from + mid, from + n, 0), 1);
                bounds("merge of " + mid + " and " + (n - mid) + " in shape " + shape, x, before, from);
            }
        }
    }

    /** The counts are in the bounds, and not less than any sort's must be. */
    private static void bounds(String call, RowPress x, int[] before, int from)
        throws ReflectiveOperationException {
        int n = before.length;
        int changed = 0;
        for (int i = 0; i < n; i++) {
            changed += before[i] != x.key(from + i) ? 1 : 0;
        }
        int compares = get(x, "latestCompares");
        int writes = get(x, "latestWrites");
        due.is(call + ": pairs", get(x, "latestPairs"), n);
        due.holds(call + ": compares " + compares, compares <= 8 * n * levels(n));
        due.holds(call + ": writes " + writes, writes <= 40 * n * levels(n));
        due.holds(call + ": compares only " + compares, compares >= n - 1);
        due.holds(call + ": writes only " + writes, writes >= changed);
        due.is(call + ": check()", x.check(), 1);
    }

    private static void tellsZero(int n) throws ReflectiveOperationException {
        RowPress x = new RowPress();
        if (n > 0) {
            x.run(n, 5, -1, 0);
        }
        x.sort(0);
        int unit = n * levels(n);
        told(n, x, 8 * unit, 40 * unit, 1);
        told(n, x, 8 * unit + 1, 0, 0);
        told(n, x, 0, 40 * unit + 1, 0);
        // The next one that does something is the one to be told of.
        x.sortPart(0, n, 2);
        due.is("check() after another sort of " + n, x.check(), 1);
    }

    private static void told(int n, RowPress x, int compares, int writes, int want)
        throws ReflectiveOperationException {
        field("latestCompares").setInt(x, compares);
        field("latestWrites").setInt(x, writes);
        due.is("check() of " + n + " with " + compares + " compares, " + writes + " writes", x.check(), want);
    }

    /** Calls that do nothing, and calls of other kinds, leave the latest sort's counts alone. */
    private static void onlyTheLatest() throws ReflectiveOperationException {
        RowPress x = new RowPress();
        x.run(100, 50, -1, 0);
        x.sortPart(0, 50, 0);
        int compares = get(x, "latestCompares");
        int writes = get(x, "latestWrites");
        x.sort(4);
        x.sortPart(3, 2, 0);
        x.sortPart(0, 101, 0);
        x.merge(0, 50, 100, 0);
        x.merge(0, 50, 100, -1);
        x.merge(0, 50, 101, 0);
        x.rotate(0, 20, 100);
        x.turn(0, 100);
        x.split(0, 100, 10, 0);
        x.sorted(0, 100, 0);
        x.thin(0);
        x.find(1, 0, 0);
        x.rank(3, 0);
        x.count(1);
        x.clear();
        due.is("pairs of the latest", get(x, "latestPairs"), 50);
        due.is("compares of the latest", get(x, "latestCompares"), compares);
        due.is("writes of the latest", get(x, "latestWrites"), writes);
        x.merge(0, 0, 0, 0);
        due.is("pairs after a merge of none", get(x, "latestPairs"), 0);
        due.is("compares after a merge of none", get(x, "latestCompares"), 0);
    }
}
