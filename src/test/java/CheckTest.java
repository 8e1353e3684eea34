/** Promise 18 for each size of the row: the counts are true counts, in the bounds, and judged right. */
public final class CheckTest {
    private static final Due due = new Due();
    private static long seed = 7L;

    public static void main(String[] args) {
        for (int n = 0; n <= 500; n++) {
            sortsOf(n);
            tellsZero(n);
        }
        for (int n = 2; n <= 500; n += n < 40 ? 1 : 23) {
            mergesOf(n);
        }
        onlyTheLatest();
        due.end();
    }

    private static int levels(int n) {
        int levels = 0;
        while (Math.pow(2, levels) < n) {
            levels++;
        }
        return Math.max(levels, 1);
    }

    private static int random(int bound) {
        seed = seed * 6364136223846793005L + 1442695040888963407L;
        return (int) ((seed >>> 33) % bound);
    }

    private static int key(int shape, int i, int n) {
        return switch (shape) {
            case 0 -> i;
            case 1 -> -i;
            case 2 -> i % 2 == 0 ? i : n - i;
            case 3 -> random(4);
            case 4 -> Integer.reverse(i);
            default -> random(1 << 30);
        };
    }

    private static void sortsOf(int n) {
        for (int shape = 0; shape < 6; shape++) {
            for (int order = 0; order < 4; order++) {
                RowPress x = new RowPress();
                int[] before = new int[n];
                for (int i = 0; i < n; i++) {
                    before[i] = key(shape, i, n);
                    x.put(before[i], i);
                }
                x.sort(order);
                bounds("sort(" + order + ") of " + n + " in shape " + shape, x, before, 0);
            }
        }
    }

    private static void mergesOf(int n) {
        // One pair before the stretch, where the row has room for it.
        int from = n < 500 ? 1 : 0;
        for (int mid = 0; mid <= n; mid++) {
            for (int shape = 0; shape < 6; shape++) {
                RowPress x = new RowPress();
                for (int i = -from; i < n; i++) {
                    x.put(key(shape, i, n), i);
                }
                x.sortPart(from, from + mid, 0);
                x.sortPart(from + mid, from + n, 0);
                int[] before = new int[n];
                for (int i = 0; i < n; i++) {
                    before[i] = x.key(from + i);
                }
                due.is("merge", x.merge(from, from + mid, from + n, 0), 1);
                bounds("merge of " + mid + " and " + (n - mid) + " in shape " + shape, x, before, from);
            }
        }
    }

    /** The counts are in the bounds, and not less than any sort's must be. */
    private static void bounds(String call, RowPress x, int[] before, int from) {
        int n = before.length;
        int changed = 0;
        for (int i = 0; i < n; i++) {
            changed += before[i] != x.key(from + i) ? 1 : 0;
        }
        int compares = Counts.compares(x);
        int writes = Counts.writes(x);
        due.is(call + ": pairs", Counts.pairs(x), n);
        due.holds(call + ": compares " + compares, compares <= 8 * n * levels(n));
        due.holds(call + ": writes " + writes, writes <= 40 * n * levels(n));
        due.holds(call + ": compares only " + compares, compares >= n - 1);
        due.holds(call + ": writes only " + writes, writes >= changed);
        due.is(call + ": check()", x.check(), 1);
    }

    private static void tellsZero(int n) {
        RowPress x = new RowPress();
        if (n > 0) {
            x.run(n, 5, -1, 0);
        }
        x.sort(0);
        int unit = n * levels(n);
        told(n, x, 8 * unit, 40 * unit, 1);
        told(n, x, 8 * unit + 1, 0, 0);
        told(n, x, 0, 40 * unit + 1, 0);
        // The next one that does something is the one to be told of.
        x.sortPart(0, n, 2);
        due.is("check() after another sort of " + n, x.check(), 1);
    }

    private static void told(int n, RowPress x, int compares, int writes, int want) {
        Counts.set(x, compares, writes);
        due.is("check() of " + n + " with " + compares + " compares, " + writes + " writes", x.check(), want);
    }

    /** Calls that do nothing, and calls of other kinds, leave the latest sort's counts alone. */
    private static void onlyTheLatest() {
        RowPress x = new RowPress();
        x.run(100, 50, -1, 0);
        x.sortPart(0, 50, 0);
        int compares = Counts.compares(x);
        int writes = Counts.writes(x);
        x.sort(4);
        x.sortPart(3, 2, 0);
        x.sortPart(0, 101, 0);
        x.merge(0, 50, 100, 0);
        x.merge(0, 50, 100, -1);
        x.merge(0, 50, 101, 0);
        x.rotate(0, 20, 100);
        x.turn(0, 100);
        x.split(0, 100, 10, 0);
        x.sorted(0, 100, 0);
        x.thin(0);
        x.find(1, 0, 0);
        x.rank(3, 0);
        x.count(1);
        x.clear();
        due.is("pairs of the latest", Counts.pairs(x), 50);
        due.is("compares of the latest", Counts.compares(x), compares);
        due.is("writes of the latest", Counts.writes(x), writes);
        x.merge(0, 0, 0, 0);
        due.is("pairs after a merge of none", Counts.pairs(x), 0);
        due.is("compares after a merge of none", Counts.compares(x), 0);
    }
}
