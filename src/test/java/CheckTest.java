/** Promise 18 for each size of the row: the counts are true counts, in the bounds, and judged right. */
public final class CheckTest {
    private static final Due due = new Due();
    private static long seed = 7L;

    public static void main(String[] args) {
        for (int n = 0; n <= 500; n++) {
            sortsOf(n);
            tellsZero(n);
        }
        for (int n = 2; n <= 500; n += n < 40 ? 1 : 23) {
            mergesOf(n);
        }
        onlyTheLatest();
        due.end();
    }

    private static int levels(int n) {
        int levels = 0;
        while (Math.pow(2, levels) < n) {
            levels++;
        }
        return Math.max(levels, 1);
    }

    private static int random(int bound) {
        seed = seed * 6364136223846793005L + 1442695040888963407L;
        return (int) ((seed >>> 33) % bound);
    }

    private static int key(int shape, int i, int n) {
        return switch (shape) {
            case 0 -> i;
            case 1 -> -i;
            case 2 -> i % 2 == 0 ? i : n - i;
            case 3 -> random(4);
            case 4 -> Integer.reverse(i);
            default -> random(1 << 30);
        };
    }

    private static void sortsOf(int n) {
        for (int shape = 0; shape < 6; shape++) {
            for (int order = 0; order < 4; order++) {
                Press x = new Press();
                Model m = new Model();
                fill(x, m, n, shape);
                int[] before = m.keys();
                due.is("sort", x.sort(order), m.sortPart(0, n, order));
                bounds("sort(" + order + ") of " + n + " in shape " + shape, x, n, changes(before, m.keys()));
            }
        }
    }

    private static void mergesOf(int n) {
        // One pair before the stretch, where the row has room for it.
        int from = n < 500 ? 1 : 0;
        for (int mid = from; mid <= from + n; mid++) {
            for (int shape = 0; shape < 6; shape++) {
                Press x = new Press();
                Model m = new Model();
                fill(x, m, from + n, shape);
                due.is("sortPart", x.sortPart(from, mid, 0), m.sortPart(from, mid, 0));
                due.is("sortPart", x.sortPart(mid, from + n, 0), m.sortPart(mid, from + n, 0));
                int[] before = m.keys();
                due.is("merge", x.merge(from, mid, from + n, 0), m.merge(from, mid, from + n, 0));
                bounds("merge of " + (mid - from) + " of " + n + " in shape " + shape, x, n,
                    changes(before, m.keys()));
            }
        }
    }

    private static void fill(Press x, Model m, int n, int shape) {
        for (int i = 0; i < n; i++) {
            int key = key(shape, i, n);
            x.put(key, i);
            m.run(1, key, 0, i);
        }
    }

    /** At how many places there is another key: each of them must have been written to. */
    private static int changes(int[] before, int[] after) {
        int changes = 0;
        for (int i = 0; i < before.length; i++) {
            changes += before[i] != after[i] ? 1 : 0;
        }
        return changes;
    }

    /** The counts are in the bounds, and not less than any sort's must be. */
    private static void bounds(String call, Press x, int n, int changes) {
        int compares = Counts.compares(x);
        int writes = Counts.writes(x);
        due.is(call + ": pairs", Counts.pairs(x), n);
        due.holds(call + ": compares " + compares, compares <= 8 * n * levels(n));
        due.holds(call + ": writes " + writes, writes <= 40 * n * levels(n));
        due.holds(call + ": compares only " + compares, compares >= n - 1);
        due.holds(call + ": writes only " + writes, writes >= changes);
        due.is(call + ": check()", x.check(), 1);
    }

    private static void tellsZero(int n) {
        Press x = new Press();
        if (n > 0) {
            x.run(n, 5, -1, 0);
        }
        x.sort(0);
        int unit = n * levels(n);
        told(n, x, 8 * unit, 40 * unit, 1);
        told(n, x, 8 * unit + 1, 0, 0);
        told(n, x, 0, 40 * unit + 1, 0);
        // The next one that does something is the one to be told of.
        x.sortPart(0, n, 2);
        due.is("check() after another sort of " + n, x.check(), 1);
    }

    private static void told(int n, Press x, int compares, int writes, int want) {
        Counts.set(x, compares, writes);
        due.is("check() of " + n + " with " + compares + " compares, " + writes + " writes", x.check(), want);
    }

    /** Calls that do nothing, and calls of other kinds, leave the latest sort's counts alone. */
    private static void onlyTheLatest() {
        Press x = new Press();
        x.run(100, 50, -1, 0);
        x.sortPart(0, 50, 0);
        int compares = Counts.compares(x);
        int writes = Counts.writes(x);
        x.sort(4);
        x.sortPart(3, 2, 0);
        x.sortPart(0, 101, 0);
        x.merge(0, 50, 100, 0);
        x.merge(0, 50, 100, -1);
        x.merge(0, 50, 101, 0);
        x.rotate(0, 20, 100);
        x.turn(0, 100);
        x.split(0, 100, 10, 0);
        x.sorted(0, 100, 0);
        x.thin(0);
        x.find(1, 0, 0);
        x.rank(3, 0);
        x.count(1);
        x.clear();
        due.is("pairs of the latest", Counts.pairs(x), 50);
        due.is("compares of the latest", Counts.compares(x), compares);
        due.is("writes of the latest", Counts.writes(x), writes);
        x.merge(0, 0, 0, 0);
        due.is("pairs after a merge of none", Counts.pairs(x), 0);
        due.is("compares after a merge of none", Counts.compares(x), 0);
    }
}
