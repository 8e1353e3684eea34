import java.util.Arrays;

/** Runs of calls on RowPress and on a plain model of the document, which must agree. */
public final class ModelTest {
    private static final int RUNS = 900;
    private static final int LONG_RUNS = 3000;
    // One clear, two sorts and a merge, a key and a tag.
    private static final int MOST_CALLS_OF_A_STEP = 6;
    private static final int[] WILD = {-1, 0, 1, 2, 255, 256, 499, 500, 501, Integer.MIN_VALUE, Integer.MAX_VALUE};

    private static final Due due = new Due();
    private static long seed = 20261115L;

    public static void main(String[] args) {
        for (int run = 0; run < RUNS && due.wrong() == 0; run++) {
            oneRun(run);
        }
        for (int run = 0; run < LONG_RUNS && due.wrong() == 0; run++) {
            longRun(run);
        }
        everyMerge();
        due.end();
    }

    private static int random(int bound) {
        seed = seed * 6364136223846793005L + 1442695040888963407L;
        return (int) ((seed >>> 33) % bound);
    }

    private static int wild() {
        return WILD[random(WILD.length)];
    }

    /** Keys from a few or from all ints, so that there are many alike in some runs. */
    private static int someKey(int kind) {
        return switch (kind) {
            case 0 -> random(3);
            case 1 -> random(40) - 20;
            case 2 -> (random(4) << 8) + random(3) - 300;
            default -> random(10) == 0 ? wild() : random(1 << 30) * 4 + random(4);
        };
    }

    private static int place(Model m) {
        return random(40) == 0 ? wild() : random(m.row.size() + 1);
    }

    private static int order() {
        return random(40) == 0 ? wild() : random(4);
    }

    /** The whole row is read after each call. To read a long one costs much, so such runs are short. */
    private static void oneRun(int run) {
        Press x = new Press();
        Model m = new Model();
        boolean isBig = run % 3 == 0;
        int most = 1 + random(isBig ? 500 : 24);
        int steps = isBig ? 40 : 100;
        for (int step = 0; step < steps && due.wrong() == 0; step++) {
            clearSome(x, m, most);
            oneCall("run " + run, x, m, run % 4);
            same("run " + run + ", step " + step, x, m);
        }
    }

    /** All the calls that an object has, and none more: what it holds is seen at single places only. */
    private static void longRun(int run) {
        Press x = new Press();
        Model m = new Model();
        int most = 1 + random(run % 2 == 0 ? 500 : 24);
        while (x.used() <= Press.MOST_CALLS - MOST_CALLS_OF_A_STEP && due.wrong() == 0) {
            clearSome(x, m, most);
            oneCall("long run " + run, x, m, run % 4);
            onePlace("long run " + run, x, m);
        }
        while (x.used() < Press.MOST_CALLS && due.wrong() == 0) {
            due.is("long run " + run + ": check()", x.check(), 1);
        }
    }

    private static void clearSome(Press x, Model m, int most) {
        if (m.row.size() > most && random(8) == 0) {
            due.is("clear()", x.clear(), m.clear());
        }
    }

    private static void onePlace(String when, Press x, Model m) {
        int place = place(m);
        boolean isPlace = place >= 0 && place < m.row.size();
        due.is(when + ": key(" + place + ")", x.key(place), isPlace ? m.row.get(place).key() : 0);
        due.is(when + ": tag(" + place + ")", x.tag(place), isPlace ? m.row.get(place).tag() : 0);
    }

    private static void oneCall(String run, Press x, Model m, int kind) {
        int a = place(m);
        int b = place(m);
        int c = place(m);
        int o = order();
        int k = someKey(kind);
        int low = Math.min(a, b);
        int high = Math.max(a, b);
        String args = run + " (" + a + " " + b + " " + c + " order " + o + " key " + k + ") ";
        switch (random(20)) {
            case 0, 1 -> due.is(args + "put", x.put(k, a), m.run(1, k, 0, a));
            case 2 -> {
                int n = random(30) == 0 ? wild() : random(40);
                int step = someKey(kind);
                due.is(args + "run " + n, x.run(n, k, step, c), m.run(n, k, step, c));
            }
            case 3 -> due.is(args + "sort", x.sort(o), m.sortPart(0, m.row.size(), o));
            case 4, 5 -> due.is(args + "sortPart", x.sortPart(low, high, o), m.sortPart(low, high, o));
            case 6, 7, 8 -> mergeSome(args, x, m, new int[] {a, b, c}, o);
            case 9 -> due.is(args + "merge", x.merge(a, b, c, o), m.merge(a, b, c, o));
            case 10 -> due.is(args + "rotate", x.rotate(a, b, c), m.rotate(a, b, c));
            case 11 -> due.is(args + "turn", x.turn(low, high), m.turn(low, high));
            case 12 -> due.is(args + "split", x.split(low, high, k, o), m.split(low, high, k, o));
            case 13 -> {
                if (random(4) == 0) {
                    x.sort(o);
                    m.sortPart(0, m.row.size(), o);
                }
                due.is(args + "thin", x.thin(o), m.thin(o));
            }
            case 14 -> due.is(args + "sorted", x.sorted(low, high, o), m.sorted(low, high, o));
            case 15 -> {
                x.sort(o);
                m.sortPart(0, m.row.size(), o);
                int equal = random(10) == 0 ? wild() : random(2);
                due.is(args + "find " + equal, x.find(k, o, equal), m.find(k, o, equal));
            }
            case 16 -> due.is(args + "find", x.find(k, o, 1), m.find(k, o, 1));
            case 17 -> due.is(args + "rank", x.rank(a, o), m.rank(a, o));
            case 18 -> {
                int[] s = {a, b, c};
                Arrays.sort(s);
                due.is(args + "rotate", x.rotate(s[0], s[1], s[2]), m.rotate(s[0], s[1], s[2]));
            }
            default -> {
                int what = random(5) - 1;
                due.is(args + "count " + what, x.count(what), m.count(what));
            }
        }
    }

    private static void mergeSome(String args, Press x, Model m, int[] s, int o) {
        Arrays.sort(s);
        x.sortPart(s[0], s[1], o);
        m.sortPart(s[0], s[1], o);
        x.sortPart(s[1], s[2], o);
        m.sortPart(s[1], s[2], o);
        due.is(args + "merge of sorted", x.merge(s[0], s[1], s[2], o), m.merge(s[0], s[1], s[2], o));
    }

    private static void same(String when, Press x, Model m) {
        due.is(when + ": count(0)", x.count(0), m.row.size());
        for (int place = 0; place < m.row.size(); place++) {
            due.is(when + ": key(" + place + ")", x.key(place), m.row.get(place).key());
            due.is(when + ": tag(" + place + ")", x.tag(place), m.row.get(place).tag());
        }
        due.is(when + ": key behind the end", x.key(m.row.size()), 0);
        due.is(when + ": tag before the start", x.tag(-1), 0);
        due.is(when + ": check()", x.check(), 1);
    }

    /** Every way to merge up to 7 and up to 7 pairs with two or three different keys. */
    private static void everyMerge() {
        for (int first = 0; first <= 7; first++) {
            for (int second = 0; second <= 7; second++) {
                for (int zeros = 0; zeros <= first; zeros++) {
                    for (int ones = zeros; ones <= first; ones++) {
                        mergeOne(first, second, zeros, ones);
                    }
                }
            }
        }
    }

    private static void mergeOne(int first, int second, int zeros, int ones) {
        for (int low = 0; low <= second; low++) {
            for (int middle = low; middle <= second; middle++) {
                Press x = new Press();
                Model m = new Model();
                add(x, m, first, zeros, ones);
                add(x, m, second, low, middle);
                due.is("merge", x.merge(0, first, first + second, 0), m.merge(0, first, first + second, 0));
                same("merge of " + first + " and " + second, x, m);
            }
        }
    }

    private static void add(Press x, Model m, int n, int zeros, int ones) {
        for (int i = 0; i < n; i++) {
            int key = i < zeros ? 0 : i < ones ? 1 : 2;
            int tag = m.row.size();
            x.put(key, tag);
            m.run(1, key, 0, tag);
        }
    }
}
