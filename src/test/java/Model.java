import java.util.ArrayList;
import java.util.Collections;
import java.util.Comparator;
import java.util.HashSet;
import java.util.List;
import java.util.Set;

/** The document, in the plainest words that Java's library has. */
final class Model {
    record Pair(int key, int tag) { }

    List<Pair> row = new ArrayList<>();

    int[] keys() {
        return row.stream().mapToInt(Pair::key).toArray();
    }

    static boolean order(int order) {
        return order >= 0 && order <= 3;
    }

    boolean stretch(int from, int to) {
        return 0 <= from && from <= to && to <= row.size();
    }

    static int compare(int a, int b, int order) {
        return switch (order) {
            case 0 -> Integer.compare(a, b);
            case 1 -> Integer.compareUnsigned(a, b);
            case 2 -> Integer.compare(b, a);
            default -> Integer.compare(Math.floorMod(a, 256), Math.floorMod(b, 256));
        };
    }

    static Comparator<Pair> by(int order) {
        return (a, b) -> compare(a.key, b.key, order);
    }

    boolean sortedBy(int from, int to, int order) {
        List<Pair> copy = new ArrayList<>(row.subList(from, to));
        copy.sort(by(order));
        for (int i = 0; i < copy.size(); i++) {
            if (compare(copy.get(i).key, row.get(from + i).key, order) != 0) {
                return false;
            }
        }
        return true;
    }

    int run(int n, int key, int step, int tag) {
        if (n < 1 || n > 500 || n + row.size() > 500) {
            return -1;
        }
        for (int i = 0; i < n; i++) {
            row.add(new Pair(key, tag));
            key += step;
            tag++;
        }
        return row.size();
    }

    int clear() {
        int were = row.size();
        row.clear();
        return were;
    }

    int sortPart(int from, int to, int order) {
        if (!stretch(from, to) || !order(order)) {
            return 0;
        }
        row.subList(from, to).sort(by(order));
        return 1;
    }

    int merge(int from, int mid, int to, int order) {
        if (!stretch(from, mid) || !stretch(mid, to) || !order(order)
            || !sortedBy(from, mid, order) || !sortedBy(mid, to, order)) {
            return 0;
        }
        return sortPart(from, to, order);
    }

    int rotate(int from, int mid, int to) {
        if (!stretch(from, mid) || !stretch(mid, to)) {
            return 0;
        }
        Collections.rotate(row.subList(from, to), to - mid);
        return 1;
    }

    int turn(int from, int to) {
        if (!stretch(from, to)) {
            return 0;
        }
        Collections.reverse(row.subList(from, to));
        return 1;
    }

    int split(int from, int to, int key, int order) {
        if (!stretch(from, to) || !order(order)) {
            return -1;
        }
        List<Pair> less = new ArrayList<>();
        List<Pair> others = new ArrayList<>();
        for (Pair pair : row.subList(from, to)) {
            (compare(pair.key, key, order) < 0 ? less : others).add(pair);
        }
        int count = less.size();
        less.addAll(others);
        for (int i = 0; i < less.size(); i++) {
            row.set(from + i, less.get(i));
        }
        return count;
    }

    int thin(int order) {
        if (!order(order) || !sortedBy(0, row.size(), order)) {
            return -1;
        }
        List<Pair> left = new ArrayList<>();
        for (Pair pair : row) {
            if (left.stream().noneMatch(p -> compare(p.key, pair.key, order) == 0)) {
                left.add(pair);
            }
        }
        row = left;
        return row.size();
    }

    int sorted(int from, int to, int order) {
        return !stretch(from, to) || !order(order) ? -1 : sortedBy(from, to, order) ? 1 : 0;
    }

    int find(int key, int order, int equal) {
        if (!order(order) || equal < 0 || equal > 1 || !sortedBy(0, row.size(), order)) {
            return -1;
        }
        return (int) row.stream().filter(p -> compare(p.key, key, order) < equal).count();
    }

    int rank(int place, int order) {
        if (place < 0 || place >= row.size() || !order(order)) {
            return -1;
        }
        List<Integer> places = new ArrayList<>();
        for (int i = 0; i < row.size(); i++) {
            places.add(i);
        }
        places.sort((a, b) -> compare(row.get(a).key, row.get(b).key, order));
        return places.indexOf(place);
    }

    int count(int what) {
        if (what == 0) {
            return row.size();
        }
        if (what == 2) {
            Set<Integer> keys = new HashSet<>();
            row.forEach(p -> keys.add(p.key));
            return keys.size();
        }
        if (what != 1) {
            return -1;
        }
        int stretches = 0;
        int from = 0;
        while (from < row.size()) {
            int to = from + 1;
            while (to < row.size() && row.get(to - 1).key <= row.get(to).key) {
                to++;
            }
            stretches++;
            from = to;
        }
        return stretches;
    }
}
