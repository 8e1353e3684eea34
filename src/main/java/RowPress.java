/**
 * A row of pairs sorted in its place, those alike in the order in which they stood.
 *
 * <p>The class itself looks at the arguments and gives the answers; {@link Row} holds the pairs
 * and moves them. No second row is kept: all sorting is done by swaps inside the one row.
 */
public final class RowPress {
    public static final int NONE = -1;

    private static final int DONE = 1;
    private static final int NOT_DONE = 0;
    private static final int MOST_COMPARES = 8;
    private static final int MOST_WRITES = 40;

    private final Row row;

    // The cost of the latest sort(), sortPart() or merge() that did something.
    private int latestPairs;
    private int latestCompares;
    private int latestWrites;

    public RowPress() {
        row = new Row();
    }

    public int put(int key, int tag) {
        if (!row.hasRoomFor(1)) {
            return NONE;
        }
        row.append(key, tag);
        return row.size;
    }

    public int run(int n, int key, int step, int tag) {
        if (n < 1 || !row.hasRoomFor(n)) {
            return NONE;
        }
        for (int i = 0; i < n; i++) {
            row.append(key + i * step, tag + i);
        }
        return row.size;
    }

    public int clear() {
        int before = row.size;
        row.size = 0;
        return before;
    }

    public int sort(int order) {
        return sortPart(0, row.size, order);
    }

    public int sortPart(int from, int to, int order) {
        if (!Order.exists(order) || !row.hasStretch(from, to)) {
            return NOT_DONE;
        }
        row.startCounting();
        row.sortInPlace(from, to, order);
        keepCounts(to - from);
        return DONE;
    }

    public int merge(int from, int mid, int to, int order) {
        if (!Order.exists(order) || !row.hasStretches(from, mid, to)) {
            return NOT_DONE;
        }
        row.startCounting();
        if (!row.inOrder(from, mid, order) || !row.inOrder(mid, to, order)) {
            return NOT_DONE;
        }
        Row.mergeInPlace(row, from, mid, to, order, 0);
        keepCounts(to - from);
        return DONE;
    }

    public int rotate(int from, int mid, int to) {
        if (!row.hasStretches(from, mid, to)) {
            return NOT_DONE;
        }
        row.swapBlocks(from, mid, to);
        return DONE;
    }

    public int turn(int from, int to) {
        if (!row.hasStretch(from, to)) {
            return NOT_DONE;
        }
        row.reverse(from, to);
        return DONE;
    }

    public int split(int from, int to, int key, int order) {
        if (!Order.exists(order) || !row.hasStretch(from, to)) {
            return NONE;
        }
        row.splitInPlace(from, to, key, order);
        return row.countLess(from, to, key, order);
    }

    public int thin(int order) {
        if (!Order.exists(order) || !row.inOrder(0, row.size, order)) {
            return NONE;
        }
        row.dropAlike(order);
        return row.size;
    }

    public int sorted(int from, int to, int order) {
        if (!Order.exists(order) || !row.hasStretch(from, to)) {
            return NONE;
        }
        return row.inOrder(from, to, order) ? 1 : 0;
    }

    public int find(int key, int order, int equal) {
        boolean isWay = equal == 0 || equal == 1;
        if (!isWay || !Order.exists(order) || !row.inOrder(0, row.size, order)) {
            return NONE;
        }
        return equal == 0
            ? row.countLess(0, row.size, key, order)
            : row.countNotMore(0, row.size, key, order);
    }

    public int rank(int place, int order) {
        if (!Order.exists(order) || !row.hasPlace(place)) {
            return NONE;
        }
        int key = row.keys[place];
        // Those alike that stand before the pair stay before it, those behind it stay behind.
        return row.countNotMore(0, place, key, order)
            + row.countLess(place, row.size, key, order);
    }

    public int key(int place) {
        return row.hasPlace(place) ? row.keys[place] : 0;
    }

    public int tag(int place) {
        return row.hasPlace(place) ? row.tags[place] : 0;
    }

    public int count(int what) {
        switch (what) {
            case 0:
                return row.size;
            case 1:
                return row.countSortedStretches();
            case 2:
                return row.countDifferentKeys();
            default:
                return NONE;
        }
    }

    public int check() {
        int unit = latestPairs * levels(latestPairs);
        boolean kept = latestCompares <= MOST_COMPARES * unit
            && latestWrites <= MOST_WRITES * unit;
        return kept ? 1 : 0;
    }

    private void keepCounts(int pairs) {
        latestPairs = pairs;
        latestCompares = row.compares;
        latestWrites = row.writes;
    }

    /** The L of the document: the least with 2 to the L not less than the pairs, 1 at least. */
    private static int levels(int pairs) {
        int levels = 1;
        while (levels < Row.MOST_LEVELS && 1 << levels < pairs) {
            levels++;
        }
        return levels;
    }

    /** The orders of keys, by their numbers. */
    private static final class Order {
        private static final int UNSIGNED = 1;
        private static final int DOWNWARD = 2;
        private static final int LOW_BITS = 3;
        private static final int SIGN_BIT = 0x80000000;
        private static final int LOW_BITS_MASK = 0xFF;

        static boolean exists(int order) {
            return order >= 0 && order <= LOW_BITS;
        }

        static boolean isLess(int left, int right, int order) {
            switch (order) {
                case UNSIGNED:
                    return (left ^ SIGN_BIT) < (right ^ SIGN_BIT);
                case DOWNWARD:
                    return left > right;
                case LOW_BITS:
                    return (left & LOW_BITS_MASK) < (right & LOW_BITS_MASK);
                default:
                    return left < right;
            }
        }
    }

    /**
     * The pairs, and all that moves them. Its methods take places, stretches and orders as given:
     * the face has looked at them with hasRoomFor, hasPlace, hasStretch and Order.exists.
     */
    private static final class Row {
        private static final int MOST_PAIRS = 500;
        // Halving 500 pairs down to 2 takes 9 levels; no merge comes near this guard.
        private static final int MOST_LEVELS = 16;

        final int[] keys = new int[MOST_PAIRS];
        final int[] tags = new int[MOST_PAIRS];
        int size;

        // Counted in every call, but read only after a sort or merge that began with startCounting.
        int compares;
        int writes;

        boolean hasRoomFor(int more) {
            return more <= MOST_PAIRS - size;
        }

        boolean hasPlace(int place) {
            return place >= 0 && place < size;
        }

        boolean hasStretch(int from, int to) {
            return from >= 0 && from <= to && to <= size;
        }

        boolean hasStretches(int from, int mid, int to) {
            return hasStretch(from, mid) && hasStretch(mid, to);
        }

        void append(int key, int tag) {
            keys[size] = key;
            tags[size] = tag;
            size++;
        }

        void startCounting() {
            compares = 0;
            writes = 0;
        }

        boolean inOrder(int from, int to, int order) {
            for (int place = from + 1; place < to; place++) {
                if (lessAt(place, place - 1, order)) {
                    return false;
                }
            }
            return true;
        }

        int countLess(int from, int to, int key, int order) {
            int less = 0;
            for (int place = from; place < to; place++) {
                if (Order.isLess(keys[place], key, order)) {
                    less++;
                }
            }
            return less;
        }

        int countNotMore(int from, int to, int key, int order) {
            int notMore = 0;
            for (int place = from; place < to; place++) {
                if (!Order.isLess(key, keys[place], order)) {
                    notMore++;
                }
            }
            return notMore;
        }

        int countSortedStretches() {
            int stretches = 0;
            for (int place = 0; place < size; place++) {
                if (place == 0 || keys[place] < keys[place - 1]) {
                    stretches++;
                }
            }
            return stretches;
        }

        int countDifferentKeys() {
            int different = 0;
            for (int place = 0; place < size; place++) {
                if (!standsBefore(place)) {
                    different++;
                }
            }
            return different;
        }

        private boolean standsBefore(int place) {
            for (int earlier = 0; earlier < place; earlier++) {
                if (keys[earlier] == keys[place]) {
                    return true;
                }
            }
            return false;
        }

        /** Merges neighbours of 1, 2, 4 .. pairs: as many rounds as the document's L. */
        void sortInPlace(int from, int to, int order) {
            for (int width = 1; width < to - from; width *= 2) {
                for (int start = from; start < to - width; start += 2 * width) {
                    int end = Math.min(start + 2 * width, to);
                    mergeInPlace(this, start, start + width, end, order, 0);
                }
            }
        }

        /**
         * Merges two sorted stretches without a second row: swaps the blocks that stand in the
         * wrong half, then merges either half. The halves are exact whatever the keys are, so a
         * merge of n pairs has at most L levels, each with at most 2 n writes.
         */
        private static void mergeInPlace(Row row, int from, int mid, int to, int order, int depth) {
            if (from >= mid || mid >= to || depth >= MOST_LEVELS) {
                return;
            }
            int half = (from + to) / 2;
            int start = row.startOfBlocks(from, mid, to, order);
            int end = half + mid - start;
            row.swapBlocks(start, mid, end);
            mergeInPlace(row, from, start, half, order, depth + 1);
            mergeInPlace(row, half, end, to, order, depth + 1);
        }

        /**
         * Where the first of the two blocks to swap begins. The second, once swapped, has to end
         * at half, so start + end = half + mid: each place in the first stretch has a mirror image
         * in the second to be compared with. Of those alike the first stretch's stay before, which
         * keeps the merge stable.
         */
        private int startOfBlocks(int from, int mid, int to, int order) {
            int half = (from + to) / 2;
            int mirror = half + mid - 1;
            int low = mid > half ? half + mid - to : from;
            int high = mid > half ? half : mid;
            while (low < high) {
                int place = (low + high) / 2;
                if (lessAt(mirror - place, place, order)) {
                    high = place;
                } else {
                    low = place + 1;
                }
            }
            return low;
        }

        /** Joins neighbours of 1, 2, 4 .. pairs, each of them split before. */
        void splitInPlace(int from, int to, int key, int order) {
            for (int width = 1; width < to - from; width *= 2) {
                for (int start = from; start < to - width; start += 2 * width) {
                    int mid = start + width;
                    int end = Math.min(mid + width, to);
                    int firstOthers = start + countLess(start, mid, key, order);
                    int secondOthers = mid + countLess(mid, end, key, order);
                    swapBlocks(firstOthers, mid, secondOthers);
                }
            }
        }

        /** Leaves the first of those alike; the row is sorted, so they stand together. */
        void dropAlike(int order) {
            int left = 0;
            for (int place = 0; place < size; place++) {
                if (left == 0 || lessAt(left - 1, place, order)) {
                    keys[left] = keys[place];
                    tags[left] = tags[place];
                    left++;
                }
            }
            size = left;
        }

        /** Two blocks side by side change places: turning each, then both, keeps their order. */
        void swapBlocks(int from, int mid, int to) {
            if (from >= mid || mid >= to) {
                return;
            }
            reverse(from, mid);
            reverse(mid, to);
            reverse(from, to);
        }

        void reverse(int from, int to) {
            int low = from;
            int high = to - 1;
            while (low < high) {
                swapPairs(low, high);
                low++;
                high--;
            }
        }

        private void swapPairs(int one, int other) {
            int key = keys[one];
            keys[one] = keys[other];
            keys[other] = key;
            writes += 2;
            int tag = tags[one];
            tags[one] = tags[other];
            tags[other] = tag;
        }

        private boolean lessAt(int left, int right, int order) {
            compares++;
            return Order.isLess(keys[left], keys[right], order);
        }
    }
}
