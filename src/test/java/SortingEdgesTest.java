/** The edges that the document names for orders, stretches, sort, sortPart and merge. */
public final class SortingEdgesTest {
    private static final int MIN = Rows.MIN;
    private static final int MAX = Rows.MAX;

    private static final Due due = new Due();

    public static void main(String[] args) {
        due.sentence("Terms: 0 as ints", SortingEdgesTest::asInts);
        due.sentence("Terms: 1 as numbers without sign", SortingEdgesTest::withoutSign);
        due.sentence("Terms: 2 the other way round than 0", SortingEdgesTest::otherWayRound);
        due.sentence("Terms: 3 by their lowest 8 bits alone", SortingEdgesTest::lowest8Bits);
        due.sentence("Terms: pairs whose keys are alike by the order stand as they stood",
            SortingEdgesTest::alikeStandAsTheyStood);
        due.sentence("5: Sorts the row stably: 1", SortingEdgesTest::sortOfAnyLength);
        due.sentence("5: 0, and nothing is done, when there is no such order", SortingEdgesTest::sortByNoOrder);
        due.sentence("6: Sorts a stretch stably, likewise", SortingEdgesTest::sortPartOfAnyStretch);
        due.sentence("6: likewise; 0, and nothing is done, when there is no such order",
            SortingEdgesTest::sortPartByNoOrder);
        due.sentence("6: 0 also when it is none", SortingEdgesTest::sortPartOfNoStretch);
        due.sentence("7: Two sorted stretches become one that is sorted stably",
            SortingEdgesTest::mergeOfAnyLengths);
        due.sentence("7: sorted stretches: those without a pair or with one", SortingEdgesTest::mergeOfShortest);
        due.sentence("7: when one is none, the first", SortingEdgesTest::mergeWithoutFirst);
        due.sentence("7: when one is none, the second", SortingEdgesTest::mergeWithoutSecond);
        due.sentence("7: or not sorted, the first", SortingEdgesTest::mergeFirstNotSorted);
        due.sentence("7: or not sorted, the second", SortingEdgesTest::mergeSecondNotSorted);
        due.sentence("7: or not sorted, but by another order", SortingEdgesTest::mergeSortedByAnother);
        due.sentence("7: or there is no such order", SortingEdgesTest::mergeByNoOrder);
        due.end();
    }

    /** Of both keys only the second is less, by the order; two alike are never less. */
    private static void less(int order, int more, int less) {
        String keys = more + " and " + less + " by " + order;
        due.is("sorted " + keys, Rows.of(more, less).sorted(0, 2, order), 0);
        due.is("sorted " + keys + ", turned", Rows.of(less, more).sorted(0, 2, order), 1);
        Press x = Rows.of(more, less);
        due.is("sort " + keys, x.sort(order), 1);
        due.row("sort " + keys, x, less + ":1 " + more + ":0");
        due.is("find " + keys, x.find(more, order, 0), 1);
        due.is("rank " + keys, Rows.of(more, less).rank(0, order), 1);
        due.is("split " + keys, Rows.of(more, less).split(0, 2, more, order), 1);
        due.is("thin " + keys, x.thin(order), 2);
    }

    private static void alike(int order, int one, int other) {
        String keys = one + " and " + other + " by " + order;
        Press x = Rows.of(one, other);
        due.is("sort " + keys, x.sort(order), 1);
        due.row("sort " + keys, x, one + ":0 " + other + ":1");
        due.is("sorted " + keys, x.sorted(0, 2, order), 1);
        due.is("find " + keys + ", less", x.find(one, order, 0), 0);
        due.is("find " + keys + ", not more", x.find(one, order, 1), 2);
        due.is("rank " + keys, x.rank(0, order), 0);
        due.is("split " + keys, x.split(0, 2, other, order), 0);
        due.is("thin " + keys, x.thin(order), 1);
        due.row("thin " + keys, x, one + ":0");
    }

    private static void asInts() {
        // Differences of these run over.
        less(0, MAX, MIN);
        less(0, MAX, -1);
        less(0, 0, MIN);
        less(0, 1, MIN);
        less(0, MIN + 1, MIN);
        less(0, MAX, MAX - 1);
        less(0, 0, -1);
        less(0, 256, 255);
        alike(0, MIN, MIN);
        alike(0, MAX, MAX);
    }

    private static void withoutSign() {
        less(1, -1, 0);
        less(1, -1, MAX);
        less(1, -1, MIN);
        less(1, MIN, MAX);
        less(1, MIN, 0);
        less(1, MAX, 0);
        less(1, -1, -2);
        less(1, 1, 0);
        alike(1, -1, -1);
        alike(1, MIN, MIN);
    }

    private static void otherWayRound() {
        // MIN has no opposite among the ints.
        less(2, MIN, MAX);
        less(2, MIN, MIN + 1);
        less(2, MIN, 0);
        less(2, MIN, -1);
        less(2, -1, 0);
        less(2, 0, MAX);
        alike(2, MIN, MIN);
        alike(2, 0, 0);
    }

    private static void lowest8Bits() {
        less(3, 255, 0);
        less(3, 255, 256);
        less(3, 128, 127);
        less(3, -1, MIN);
        less(3, MAX, 254);
        less(3, -255, MAX - 255);
        less(3, 1, 65536);
        alike(3, 0, 256);
        alike(3, 256, 0);
        alike(3, -1, 255);
        alike(3, MAX, -1);
        alike(3, MIN, 0);
        alike(3, -256, 512);
    }

    private static void alikeStandAsTheyStood() {
        for (int order = 0; order < 4; order++) {
            Press x = Rows.alike(500);
            due.is("sort(" + order + ")", x.sort(order), 1);
            due.is("merge by " + order, x.merge(0, 123, 500, order), 1);
            for (int place = 0; place < 500; place++) {
                due.is("tag(" + place + ") by " + order, x.tag(place), place);
            }
        }
        Press low = new Press();
        low.run(500, 0, 128, 0);
        low.sort(3);
        for (int place = 0; place < 500; place++) {
            int want = place < 250 ? 2 * place : 2 * (place - 250) + 1;
            due.is("tag(" + place + ") of two kinds", low.tag(place), want);
        }
    }

    /** The stretch is sorted by the order, and the tags of those alike rise, as they did before. */
    private static void stable(String after, Press x, int from, int to, int order) {
        due.is("sorted after " + after, x.sorted(from, to, order), 1);
        for (int place = from + 1; place < to; place++) {
            boolean alike = x.sorted(place - 1, place + 1, order) == 1
                && Rows.of(x.key(place), x.key(place - 1)).sorted(0, 2, order) == 1;
            due.holds("those alike changed places after " + after,
                !alike || x.tag(place - 1) < x.tag(place));
        }
        boolean[] seen = new boolean[500];
        for (int place = from; place < to; place++) {
            int tag = x.tag(place);
            due.holds("twice tag " + tag + " after " + after, tag >= 0 && tag < 500 && !seen[tag]);
            seen[tag] = true;
        }
    }

    private static void sortOfAnyLength() {
        for (int n : new int[] {0, 1, 2, 3, 4, 5, 7, 8, 9, 255, 256, 257, 499, 500}) {
            for (int order = 0; order < 4; order++) {
                Press x = Rows.mixed(n);
                due.is("sort(" + order + ") of " + n, x.sort(order), 1);
                due.is("count(0) after it", x.count(0), n);
                stable("sort(" + order + ") of " + n, x, 0, n, order);
                String once = Rows.text(x);
                due.is("sort(" + order + ") of " + n + " again", x.sort(order), 1);
                due.row("sort(" + order + ") of " + n + " again", x, once);
            }
        }
    }

    private static void sortByNoOrder() {
        for (int size : Rows.SIZES) {
            for (int order : Rows.NO_ORDERS) {
                Press x = Rows.mixed(size);
                due.nothing("sort(" + order + ") of " + size, x, () -> x.sort(order), 0);
            }
        }
    }

    private static void sortPartOfAnyStretch() {
        for (int size : Rows.SIZES) {
            for (int[] s : Rows.stretches(size)) {
                for (int order = 0; order < 4; order++) {
                    Press x = Rows.mixed(size);
                    String call = "sortPart(" + s[0] + ", " + s[1] + ", " + order + ") of " + size;
                    String before = Rows.text(x, 0, s[0]);
                    String behind = Rows.text(x, s[1], size);
                    due.is(call, x.sortPart(s[0], s[1], order), 1);
                    stable(call, x, s[0], s[1], order);
                    due.holds(call + " before it", Rows.text(x, 0, s[0]).equals(before));
                    due.holds(call + " behind it", Rows.text(x, s[1], size).equals(behind));
                }
            }
        }
    }

    private static void sortPartByNoOrder() {
        for (int size : Rows.SIZES) {
            for (int order : Rows.NO_ORDERS) {
                for (int[] s : Rows.stretches(size)) {
                    Press x = Rows.mixed(size);
                    due.nothing("sortPart(" + s[0] + ", " + s[1] + ", " + order + ") of " + size, x,
                        () -> x.sortPart(s[0], s[1], order), 0);
                }
            }
        }
    }

    private static void sortPartOfNoStretch() {
        for (int size : Rows.SIZES) {
            for (int[] s : Rows.noStretches(size)) {
                Press x = Rows.mixed(size);
                due.nothing("sortPart(" + s[0] + ", " + s[1] + ", 0) of " + size, x,
                    () -> x.sortPart(s[0], s[1], 0), 0);
                due.nothing("sortPart(" + s[0] + ", " + s[1] + ", 4) of " + size, x,
                    () -> x.sortPart(s[0], s[1], 4), 0);
            }
        }
    }

    private static void mergeOfAnyLengths() {
        for (int[] s : new int[][] {{0, 250, 500}, {0, 1, 500}, {0, 499, 500}, {0, 256, 500}, {1, 2, 3},
            {498, 499, 500}, {100, 101, 499}, {7, 300, 301}}) {
            for (int order = 0; order < 4; order++) {
                Press x = Rows.mixed(500);
                x.sortPart(s[0], s[1], order);
                x.sortPart(s[1], s[2], order);
                String before = Rows.text(x, 0, s[0]);
                String behind = Rows.text(x, s[2], 500);
                String call = "merge(" + s[0] + ", " + s[1] + ", " + s[2] + ", " + order + ")";
                due.is(call, x.merge(s[0], s[1], s[2], order), 1);
                stable(call, x, s[0], s[2], order);
                due.holds(call + " before it", Rows.text(x, 0, s[0]).equals(before));
                due.holds(call + " behind it", Rows.text(x, s[2], 500).equals(behind));
            }
        }
    }

    private static void mergeOfShortest() {
        Press x = Rows.of(9, 1, 2, 3, 0);
        for (int[] s : new int[][] {{0, 0, 0}, {2, 2, 2}, {5, 5, 5}, {1, 1, 4}, {1, 4, 4}, {0, 0, 1}, {4, 5, 5},
            {1, 2, 3}}) {
            due.is("merge(" + s[0] + ", " + s[1] + ", " + s[2] + ", 0)", x.merge(s[0], s[1], s[2], 0), 1);
            due.row("merges that move nothing", x, "9:0 1:1 2:2 3:3 0:4");
        }
        due.is("merge(0, 1, 2, 0)", x.merge(0, 1, 2, 0), 1);
        due.row("merge of one and one", x, "1:1 9:0 2:2 3:3 0:4");
    }

    private static void mergeWithoutFirst() {
        for (int size : Rows.SIZES) {
            Press x = Rows.mixed(size);
            x.sort(0);
            for (int[] s : Rows.noStretches(size)) {
                due.nothing("merge(" + s[0] + ", " + s[1] + ", " + size + ", 0) of " + size, x,
                    () -> x.merge(s[0], s[1], size, 0), 0);
            }
        }
        Press x = Rows.of(1, 2, 3, 4, 5);
        due.nothing("merge(3, 2, 5, 0)", x, () -> x.merge(3, 2, 5, 0), 0);
        due.nothing("merge(-1, 2, 5, 0)", x, () -> x.merge(-1, 2, 5, 0), 0);
        due.nothing("merge(-1, 0, 0, 0)", x, () -> x.merge(-1, 0, 0, 0), 0);
    }

    private static void mergeWithoutSecond() {
        for (int size : Rows.SIZES) {
            Press x = Rows.mixed(size);
            x.sort(0);
            for (int[] s : Rows.noStretches(size)) {
                due.nothing("merge(0, " + s[0] + ", " + s[1] + ", 0) of " + size, x,
                    () -> x.merge(0, s[0], s[1], 0), 0);
            }
        }
        Press x = Rows.of(1, 2, 3, 4, 5);
        due.nothing("merge(0, 3, 2, 0)", x, () -> x.merge(0, 3, 2, 0), 0);
        due.nothing("merge(0, 3, 6, 0)", x, () -> x.merge(0, 3, 6, 0), 0);
        due.nothing("merge(5, 5, 6, 0)", x, () -> x.merge(5, 5, 6, 0), 0);
        due.nothing("merge(0, 6, 6, 0)", x, () -> x.merge(0, 6, 6, 0), 0);
    }

    private static void mergeFirstNotSorted() {
        // The fault is at the start, in the middle, at the end of the first.
        for (int[] keys : new int[][] {{2, 1, 3, 4, 0, 9}, {1, 3, 2, 4, 0, 9}, {1, 2, 4, 3, 0, 9}}) {
            Press x = Rows.of(keys);
            due.nothing("merge(0, 4, 6, 0)", x, () -> x.merge(0, 4, 6, 0), 0);
            due.nothing("merge(0, 4, 4, 0)", x, () -> x.merge(0, 4, 4, 0), 0);
        }
        Press beside = Rows.of(9, 1, 2, 3, 0);
        due.is("merge(1, 3, 4, 0), a fault only before it", beside.merge(1, 3, 4, 0), 1);
    }

    private static void mergeSecondNotSorted() {
        for (int[] keys : new int[][] {{0, 9, 2, 1, 3, 4}, {0, 9, 1, 3, 2, 4}, {0, 9, 1, 2, 4, 3}}) {
            Press x = Rows.of(keys);
            due.nothing("merge(0, 2, 6, 0)", x, () -> x.merge(0, 2, 6, 0), 0);
            due.nothing("merge(2, 2, 6, 0)", x, () -> x.merge(2, 2, 6, 0), 0);
        }
        Press between = Rows.of(5, 6, 1, 2, 0);
        due.is("merge(0, 2, 4, 0), a fault only between and behind", between.merge(0, 2, 4, 0), 1);
        due.row("merge(0, 2, 4, 0)", between, "1:2 2:3 5:0 6:1 0:4");
    }

    private static void mergeSortedByAnother() {
        int[][] sortedBy = {{-1, 0, 255, 256}, {255, 256, MIN, -1}, {256, 255, 0, -1}, {256, 0, -1, 255}};
        for (int sorted = 0; sorted < 4; sorted++) {
            for (int order = 0; order < 4; order++) {
                Press x = Rows.of(sortedBy[sorted]);
                if (order == sorted) {
                    due.is("merge(0, 4, 4, " + order + ")", x.merge(0, 4, 4, order), 1);
                    due.is("merge(0, 0, 4, " + order + ")", x.merge(0, 0, 4, order), 1);
                    continue;
                }
                int by = order;
                due.nothing("merge(0, 4, 4, " + by + ")", x, () -> x.merge(0, 4, 4, by), 0);
                due.nothing("merge(0, 0, 4, " + by + ")", x, () -> x.merge(0, 0, 4, by), 0);
            }
        }
    }

    private static void mergeByNoOrder() {
        for (int order : Rows.NO_ORDERS) {
            Press x = Rows.alike(5);
            for (int[] s : new int[][] {{0, 2, 5}, {0, 0, 0}, {5, 5, 5}, {0, 5, 5}, {1, 2, 3}}) {
                due.nothing("merge(" + s[0] + ", " + s[1] + ", " + s[2] + ", " + order + ")", x,
                    () -> x.merge(s[0], s[1], s[2], order), 0);
            }
            Press none = new Press();
            due.nothing("merge(0, 0, 0, " + order + ") of none", none, () -> none.merge(0, 0, 0, order), 0);
        }
    }
}
