/** Rows, and arguments that are none, which several tests use. */
final class Rows {
    static final int MIN = Integer.MIN_VALUE;
    static final int MAX = Integer.MAX_VALUE;
    static final int[] NO_ORDERS = {-1, 4, MIN, MAX, 7, 256, -4};
    /** Rows with as many pairs: none, one, a few, almost full, full. */
    static final int[] SIZES = {0, 1, 5, 499, 500};

    private Rows() { }

    /** A row with these keys, the tags 0, 1, 2 .. */
    static Press of(int... keys) {
        Press x = new Press();
        for (int i = 0; i < keys.length; i++) {
            x.put(keys[i], i);
        }
        return x;
    }

    static Press five() {
        return of(3, 1, 2, 1, 3);
    }

    /** A row of n pairs that no order finds sorted if there are more than a few. */
    static Press mixed(int n) {
        Press x = new Press();
        // What stood there before shows if a call looks behind the row's end.
        x.run(500, -1000, 7, 9000);
        x.clear();
        if (n > 0) {
            x.run(n, 77, 1234567891, 0);
        }
        return x;
    }

    /** A row of n pairs with all keys alike, the tags 0, 1, 2 .. */
    static Press alike(int n) {
        Press x = new Press();
        x.run(n, 7, 0, 0);
        return x;
    }

    /** None of these is a stretch of a row of so many pairs. */
    static int[][] noStretches(int size) {
        return new int[][] {
            {-1, 0}, {-1, size}, {-1, -1}, {MIN, 0}, {MIN, size}, {MIN, MIN}, {-size - 1, size},
            {0, size + 1}, {size, size + 1}, {size + 1, size + 1}, {0, 501}, {500, 501}, {501, 501},
            {0, MAX}, {size, MAX}, {MAX, MAX}, {MIN, MAX}, {MAX, MIN},
            {0, -1}, {1, 0}, {size, size - 1}, {size + 1, size}, {size + 1, 0}, {MAX, size}, {size, MIN},
        };
    }

    /** All of these are stretches of a row of so many pairs, those without a pair first. */
    static int[][] stretches(int size) {
        int some = size / 2;
        return new int[][] {
            {0, 0}, {some, some}, {size, size}, {0, some}, {some, size}, {0, size},
            {Math.max(size - 1, 0), size}, {0, Math.min(size, 1)},
        };
    }

    /** The row's pairs from a place to before another, written key:tag with a space between them. */
    static String text(Press x, int from, int to) {
        StringBuilder text = new StringBuilder();
        for (int place = from; place < to; place++) {
            text.append(place == from ? "" : " ").append(x.key(place)).append(':').append(x.tag(place));
        }
        return text.toString();
    }

    static String text(Press x) {
        return text(x, 0, x.count(0));
    }
}
