import java.util.ArrayList;
import java.util.Collections;
import java.util.Comparator;
import java.util.HashSet;
import java.util.List;
import java.util.Set;

/** Long runs of calls on RowPress and on a plain model of the document, which must agree. */
public final class ModelTest {
    private static final int RUNS = 600;
    private static final int CALLS = 512;
    private static final int[] WILD = {-1, 0, 1, 2, 255, 256, 499, 500, 501, Integer.MIN_VALUE, Integer.MAX_VALUE};

    private static final Due due = new Due();
    private static long seed = 20261115L;

    /** The document, in the plainest words that Java's library has. */
    private static final class Model {
        record Pair(int key, int tag) { }

        List<Pair> row = new ArrayList<>();

        static boolean order(int order) {
            return order >= 0 && order <= 3;
        }

        boolean stretch(int from, int to) {
            return 0 <= from && from <= to && to <= row.size();
        }

        static int compare(int a, int b, int order) {
            return switch (order) {
                case 0 -> Integer.compare(a, b);
                case 1 -> Integer.compareUnsigned(a, b);
                case 2 -> Integer.compare(b, a);
                default -> Integer.compare(Math.floorMod(a, 256), Math.floorMod(b, 256));
            };
        }

        static Comparator<Pair> by(int order) {
            return (a, b) -> compare(a.key, b.key, order);
        }

        boolean sortedBy(int from, int to, int order) {
            List<Pair> copy = new ArrayList<>(row.subList(from, to));
            copy.sort(by(order));
            for (int i = 0; i < copy.size(); i++) {
                if (compare(copy.get(i).key, row.get(from + i).key, order) != 0) {
                    return false;
                }
            }
            return true;
        }

        int run(int n, int key, int step, int tag) {
            if (n < 1 || n > 500 || n + row.size() > 500) {
                return -1;
            }
            for (int i = 0; i < n; i++) {
                row.add(new Pair(key, tag));
                key += step;
                tag++;
            }
            return row.size();
        }

        int clear() {
            int were = row.size();
            row.clear();
            return were;
        }

        int sortPart(int from, int to, int order) {
            if (!stretch(from, to) || !order(order)) {
                return 0;
            }
            row.subList(from, to).sort(by(order));
            return 1;
        }

        int merge(int from, int mid, int to, int order) {
            if (!stretch(from, mid) || !stretch(mid, to) || !order(order)
                || !sortedBy(from, mid, order) || !sortedBy(mid, to, order)) {
                return 0;
            }
            return sortPart(from, to, order);
        }

        int rotate(int from, int mid, int to) {
            if (!stretch(from, mid) || !stretch(mid, to)) {
                return 0;
            }
            Collections.rotate(row.subList(from, to), to - mid);
            return 1;
        }

        int turn(int from, int to) {
            if (!stretch(from, to)) {
                return 0;
            }
            Collections.reverse(row.subList(from, to));
            return 1;
        }

        int split(int from, int to, int key, int order) {
            if (!stretch(from, to) || !order(order)) {
                return -1;
            }
            List<Pair> less = new ArrayList<>();
            List<Pair> others = new ArrayList<>();
            for (Pair pair : row.subList(from, to)) {
                (compare(pair.key, key, order) < 0 ? less : others).add(pair);
            }
            int count = less.size();
            less.addAll(others);
            for (int i = 0; i < less.size(); i++) {
                row.set(from + i, less.get(i));
            }
            return count;
        }

        int thin(int order) {
            if (!order(order) || !sortedBy(0, row.size(), order)) {
                return -1;
            }
            List<Pair> left = new ArrayList<>();
            for (Pair pair : row) {
                if (left.stream().noneMatch(p -> compare(p.key, pair.key, order) == 0)) {
                    left.add(pair);
                }
            }
            row = left;
            return row.size();
        }

        int sorted(int from, int to, int order) {
            return !stretch(from, to) || !order(order) ? -1 : sortedBy(from, to, order) ? 1 : 0;
        }

        int find(int key, int order, int equal) {
            if (!order(order) || equal < 0 || equal > 1 || !sortedBy(0, row.size(), order)) {
                return -1;
            }
            return (int) row.stream().filter(p -> compare(p.key, key, order) < equal).count();
        }

        int rank(int place, int order) {
            if (place < 0 || place >= row.size() || !order(order)) {
                return -1;
            }
            List<Integer> places = new ArrayList<>();
            for (int i = 0; i < row.size(); i++) {
                places.add(i);
            }
            places.sort((a, b) -> compare(row.get(a).key, row.get(b).key, order));
            return places.indexOf(place);
        }

        int count(int what) {
            if (what == 0) {
                return row.size();
            }
            if (what == 2) {
                Set<Integer> keys = new HashSet<>();
                row.forEach(p -> keys.add(p.key));
                return keys.size();
            }
            if (what != 1) {
                return -1;
            }
            int stretches = 0;
            int from = 0;
            while (from < row.size()) {
                int to = from + 1;
                while (to < row.size() && row.get(to - 1).key <= row.get(to).key) {
                    to++;
                }
                stretches++;
                from = to;
            }
            return stretches;
        }
    }

    public static void main(String[] args) {
        for (int run = 0; run < RUNS && due.wrong() == 0; run++) {
            oneRun(run);
        }
        everyMerge();
        due.end();
    }

    private static int random(int bound) {
        seed = seed * 6364136223846793005L + 1442695040888963407L;
        return (int) ((seed >>> 33) % bound);
    }

    private static int wild() {
        return WILD[random(WILD.length)];
    }

    /** Keys from a few or from all ints, so that there are many alike in some runs. */
    private static int someKey(int kind) {
        return switch (kind) {
            case 0 -> random(3);
            case 1 -> random(40) - 20;
            case 2 -> (random(4) << 8) + random(3) - 300;
            default -> random(10) == 0 ? wild() : random(1 << 30) * 4 + random(4);
        };
    }

    private static int place(Model m) {
        return random(40) == 0 ? wild() : random(m.row.size() + 1);
    }

    private static int order() {
        return random(40) == 0 ? wild() : random(4);
    }

    private static void oneRun(int run) {
        RowPress x = new RowPress();
        Model m = new Model();
        int kind = run % 4;
        int most = 1 + random(run % 3 == 0 ? 500 : 24);
        for (int call = 0; call < CALLS; call++) {
            if (m.row.size() > most && random(8) == 0) {
                due.is("clear()", x.clear(), m.clear());
            }
            oneCall(run, x, m, kind);
            same("run " + run + ", call " + call, x, m);
            if (due.wrong() != 0) {
                return;
            }
        }
    }

    private static void oneCall(int run, RowPress x, Model m, int kind) {
        int a = place(m);
        int b = place(m);
        int c = place(m);
        int o = order();
        int k = someKey(kind);
        int low = Math.min(a, b);
        int high = Math.max(a, b);
        String args = "run " + run + " (" + a + " " + b + " " + c + " order " + o + " key " + k + ") ";
        switch (random(20)) {
            case 0, 1 -> due.is(args + "put", x.put(k, a), m.run(1, k, 0, a));
            case 2 -> {
                int n = random(30) == 0 ? wild() : random(40);
                int step = someKey(kind);
                due.is(args + "run " + n, x.run(n, k, step, c), m.run(n, k, step, c));
            }
            case 3 -> due.is(args + "sort", x.sort(o), m.sortPart(0, m.row.size(), o));
            case 4, 5 -> due.is(args + "sortPart", x.sortPart(low, high, o), m.sortPart(low, high, o));
            case 6, 7, 8 -> mergeSome(args, x, m, new int[] {a, b, c}, o);
            case 9 -> due.is(args + "merge", x.merge(a, b, c, o), m.merge(a, b, c, o));
            case 10 -> due.is(args + "rotate", x.rotate(a, b, c), m.rotate(a, b, c));
            case 11 -> due.is(args + "turn", x.turn(low, high), m.turn(low, high));
            case 12 -> due.is(args + "split", x.split(low, high, k, o), m.split(low, high, k, o));
            case 13 -> {
                if (random(4) == 0) {
                    x.sort(o);
                    m.sortPart(0, m.row.size(), o);
                }
                due.is(args + "thin", x.thin(o), m.thin(o));
            }
            case 14 -> due.is(args + "sorted", x.sorted(low, high, o), m.sorted(low, high, o));
            case 15 -> {
                x.sort(o);
                m.sortPart(0, m.row.size(), o);
                int equal = random(10) == 0 ? wild() : random(2);
                due.is(args + "find " + equal, x.find(k, o, equal), m.find(k, o, equal));
            }
            case 16 -> due.is(args + "find", x.find(k, o, 1), m.find(k, o, 1));
            case 17 -> due.is(args + "rank", x.rank(a, o), m.rank(a, o));
            case 18 -> {
                int[] s = {a, b, c};
                java.util.Arrays.sort(s);
                due.is(args + "rotate", x.rotate(s[0], s[1], s[2]), m.rotate(s[0], s[1], s[2]));
            }
            default -> {
                int what = random(5) - 1;
                due.is(args + "count " + what, x.count(what), m.count(what));
            }
        }
    }

    private static void mergeSome(String args, RowPress x, Model m, int[] s, int o) {
        java.util.Arrays.sort(s);
        x.sortPart(s[0], s[1], o);
        m.sortPart(s[0], s[1], o);
        x.sortPart(s[1], s[2], o);
        m.sortPart(s[1], s[2], o);
        due.is(args + "merge of sorted", x.merge(s[0], s[1], s[2], o), m.merge(s[0], s[1], s[2], o));
    }

    private static void same(String when, RowPress x, Model m) {
        due.is(when + ": count(0)", x.count(0), m.row.size());
        for (int place = 0; place < m.row.size(); place++) {
            due.is(when + ": key(" + place + ")", x.key(place), m.row.get(place).key());
            due.is(when + ": tag(" + place + ")", x.tag(place), m.row.get(place).tag());
        }
        due.is(when + ": key behind the end", x.key(m.row.size()), 0);
        due.is(when + ": tag before the start", x.tag(-1), 0);
        due.is(when + ": check()", x.check(), 1);
    }

    /** Every way to merge up to 7 and up to 7 pairs with two or three different keys. */
    private static void everyMerge() {
        for (int first = 0; first <= 7; first++) {
            for (int second = 0; second <= 7; second++) {
                for (int zeros = 0; zeros <= first; zeros++) {
                    for (int ones = zeros; ones <= first; ones++) {
                        mergeOne(first, second, zeros, ones);
                    }
                }
            }
        }
    }

    private static void mergeOne(int first, int second, int zeros, int ones) {
        for (int low = 0; low <= second; low++) {
            for (int middle = low; middle <= second; middle++) {
                RowPress x = new RowPress();
                Model m = new Model();
                add(x, m, first, zeros, ones);
                add(x, m, second, low, middle);
                due.is("merge", x.merge(0, first, first + second, 0), m.merge(0, first, first + second, 0));
                same("merge of " + first + " and " + second, x, m);
            }
        }
    }

    private static void add(RowPress x, Model m, int n, int zeros, int ones) {
        for (int i = 0; i < n; i++) {
            int key = i < zeros ? 0 : i < ones ? 1 : 2;
            int tag = m.row.size();
            x.put(key, tag);
            m.run(1, key, 0, tag);
        }
    }
}
