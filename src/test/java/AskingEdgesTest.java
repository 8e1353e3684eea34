/** The edges that the document names for sorted, find, rank, key, tag, count and check. */
public final class AskingEdgesTest {
    private static final int MIN = Rows.MIN;
    private static final int MAX = Rows.MAX;
    private static final int[] NO_WAYS = {-1, 2, 3, 256, MIN, MAX};

    private static final Due due = new Due();

    public static void main(String[] args) {
        due.sentence("12: Whether a stretch is sorted: 1, 0", AskingEdgesTest::sortedOrNot);
        due.sentence("12: sorted, if none of its keys is less than the one before", AskingEdgesTest::sortedShortest);
        due.sentence("12: NONE when it is none", AskingEdgesTest::sortedOfNoStretch);
        due.sentence("12: or there is no such order", AskingEdgesTest::sortedByNoOrder);
        due.sentence("13: At how many places the key is less (0), or not more (1)", AskingEdgesTest::findAny);
        due.sentence("13: NONE when the row is not sorted by the order", AskingEdgesTest::findInNotSorted);
        due.sentence("13: or there is no such order", AskingEdgesTest::findByNoOrder);
        due.sentence("13: or way", AskingEdgesTest::findByNoWay);
        due.sentence("14: The place that a pair would have if the row were sorted stably", AskingEdgesTest::rankAny);
        due.sentence("14: NONE when there is no such place", AskingEdgesTest::rankOfNoPlace);
        due.sentence("14: or order", AskingEdgesTest::rankByNoOrder);
        due.sentence("15: The key at a place; 0 when there is none such", AskingEdgesTest::keyOfNoPlace);
        due.sentence("16: The tag at a place; 0 when there is none such", AskingEdgesTest::tagOfNoPlace);
        due.sentence("17: How many pairs there are (what 0)", AskingEdgesTest::countPairs);
        due.sentence("17: stretches as long as can be sorted by order 0 (1)", AskingEdgesTest::countStretches);
        due.sentence("17: different keys (2)", AskingEdgesTest::countKeys);
        due.sentence("17: NONE for others", AskingEdgesTest::countOfOthers);
        due.sentence("18: 1 (also when there was none)", AskingEdgesTest::checkOfNone);
        due.sentence("18: the latest sort(), sortPart(), or merge()", AskingEdgesTest::checkOfTheLatest);
        due.sentence("18: that did something", AskingEdgesTest::checkLeavesOutRefused);
        due.sentence("18: compared keys .. times, and wrote .. times", AskingEdgesTest::checkCountsTruly);
        due.sentence("18: compared keys at most 8 n L times", AskingEdgesTest::checkCompares);
        due.sentence("18: wrote at most 40 n L times to a key's place", AskingEdgesTest::checkWrites);
        due.sentence("18: L the least number with 2 to the L not less than n, 1 at least",
            AskingEdgesTest::checkLevels);
        due.end();
    }

    private static void sortedOrNot() {
        int[][] sortedBy = {{-1, 0, 255, 256}, {255, 256, MIN, -1}, {256, 255, 0, -1}, {256, 0, -1, 255}};
        for (int sorted = 0; sorted < 4; sorted++) {
            Press x = Rows.of(sortedBy[sorted]);
            for (int order = 0; order < 4; order++) {
                int by = order;
                due.nothing("sorted(0, 4, " + by + ") of one sorted by " + sorted, x, () -> x.sorted(0, 4, by),
                    by == sorted ? 1 : 0);
            }
        }
        Press x = Rows.of(9, 1, 2, 3, 0);
        due.is("faults only outside", x.sorted(1, 4, 0), 1);
        due.is("a fault at the start", x.sorted(0, 4, 0), 0);
        due.is("a fault at the end", x.sorted(1, 5, 0), 0);
        Press full = new Press();
        full.run(500, -250, 1, 0);
        due.is("500 upward", full.sorted(0, 500, 0), 1);
        full.turn(498, 500);
        due.is("500, the last two turned", full.sorted(0, 500, 0), 0);
        due.is("500 without the last of them", full.sorted(0, 499, 0), 1);
        full.turn(498, 500);
        full.turn(0, 2);
        due.is("500, the first two turned", full.sorted(0, 500, 0), 0);
        due.is("500 without the first of them", full.sorted(1, 500, 0), 1);
    }

    private static void sortedShortest() {
        for (int order = 0; order < 4; order++) {
            for (int size : Rows.SIZES) {
                Press x = Rows.mixed(size);
                for (int place = 0; place <= size; place++) {
                    due.is("none at " + place + " of " + size, x.sorted(place, place, order), 1);
                    if (place > 0) {
                        due.is("one at " + (place - 1) + " of " + size, x.sorted(place - 1, place, order), 1);
                    }
                }
            }
            due.is("500 alike by " + order, Rows.alike(500).sorted(0, 500, order), 1);
        }
        due.is("256, 0, 512 by 3", Rows.of(256, 0, 512).sorted(0, 3, 3), 1);
    }

    private static void sortedOfNoStretch() {
        for (int size : Rows.SIZES) {
            Press x = Rows.mixed(size);
            for (int[] s : Rows.noStretches(size)) {
                due.nothing("sorted(" + s[0] + ", " + s[1] + ", 0) of " + size, x,
                    () -> x.sorted(s[0], s[1], 0), -1);
            }
        }
    }

    private static void sortedByNoOrder() {
        for (int size : Rows.SIZES) {
            Press x = Rows.mixed(size);
            for (int order : Rows.NO_ORDERS) {
                for (int[] s : Rows.stretches(size)) {
                    due.nothing("sorted(" + s[0] + ", " + s[1] + ", " + order + ") of " + size, x,
                        () -> x.sorted(s[0], s[1], order), -1);
                }
            }
        }
    }

    private static void find(Press x, int key, int order, int less, int notMore) {
        due.nothing("find(" + key + ", " + order + ", 0)", x, () -> x.find(key, order, 0), less);
        due.nothing("find(" + key + ", " + order + ", 1)", x, () -> x.find(key, order, 1), notMore);
    }

    private static void findAny() {
        Press none = new Press();
        for (int order = 0; order < 4; order++) {
            find(none, 0, order, 0, 0);
            find(none, MIN, order, 0, 0);
            find(Rows.alike(500), 7, order, 0, 500);
            find(Rows.alike(500), 6, order, order == 2 ? 500 : 0, order == 2 ? 500 : 0);
            find(Rows.alike(500), 8, order, order == 2 ? 0 : 500, order == 2 ? 0 : 500);
        }
        Press ints = Rows.of(MIN, MIN, 0, MAX);
        find(ints, MIN, 0, 0, 2);
        find(ints, MIN + 1, 0, 2, 2);
        find(ints, MAX, 0, 3, 4);
        find(ints, MAX - 1, 0, 3, 3);
        Press unsigned = Rows.of(0, MAX, MIN, -1);
        find(unsigned, 0, 1, 0, 1);
        find(unsigned, MIN, 1, 2, 3);
        find(unsigned, -1, 1, 3, 4);
        find(unsigned, -2, 1, 3, 3);
        Press down = Rows.of(MAX, 0, 0, MIN);
        find(down, MAX, 2, 0, 1);
        find(down, MAX - 1, 2, 1, 1);
        find(down, 0, 2, 1, 3);
        find(down, MIN, 2, 3, 4);
        Press low = Rows.of(256, 1, 257, -1);
        find(low, MIN, 3, 0, 1);
        find(low, 513, 3, 1, 3);
        find(low, 127, 3, 3, 3);
        find(low, 255, 3, 3, 4);
        Press full = new Press();
        full.run(500, 0, 2, 0);
        find(full, -1, 0, 0, 0);
        find(full, 0, 0, 0, 1);
        find(full, 998, 0, 499, 500);
        find(full, 999, 0, 500, 500);
    }

    private static void findInNotSorted() {
        for (int[] keys : new int[][] {{2, 1, 1, 3, 4}, {1, 1, 3, 2, 4}, {1, 1, 2, 4, 3}}) {
            Press x = Rows.of(keys);
            for (int order = 0; order < 4; order++) {
                find(x, 2, order, -1, -1);
            }
        }
        find(Rows.of(-1, 0), 0, 1, -1, -1);
        find(Rows.of(0, -1), 0, 0, -1, -1);
        find(Rows.of(1, 2), 0, 2, -1, -1);
        find(Rows.of(255, 256), 0, 3, -1, -1);
        find(Rows.mixed(500), 0, 0, -1, -1);
    }

    private static void findByNoOrder() {
        for (int order : Rows.NO_ORDERS) {
            find(new Press(), 7, order, -1, -1);
            find(Rows.of(7), 7, order, -1, -1);
            find(Rows.alike(500), 7, order, -1, -1);
        }
    }

    private static void findByNoWay() {
        for (int equal : NO_WAYS) {
            for (Press x : new Press[] {new Press(), Rows.of(7), Rows.alike(500)}) {
                for (int order = 0; order < 4; order++) {
                    int by = order;
                    due.nothing("find(7, " + by + ", " + equal + ")", x, () -> x.find(7, by, equal), -1);
                }
            }
        }
    }

    private static void rankAny() {
        for (int order = 0; order < 4; order++) {
            due.is("rank(0, " + order + ") of one", Rows.of(5).rank(0, order), 0);
            Press alike = Rows.alike(500);
            for (int place = 0; place < 500; place++) {
                due.is("rank(" + place + ", " + order + ") of 500 alike", alike.rank(place, order), place);
            }
            for (int size : Rows.SIZES) {
                Press x = Rows.mixed(size);
                Press sorted = Rows.mixed(size);
                sorted.sort(order);
                // Before it was sorted each pair stood at the place that its tag tells.
                for (int rank = 0; rank < size; rank++) {
                    int place = sorted.tag(rank);
                    due.is("rank(" + place + ", " + order + ") of " + size, x.rank(place, order), rank);
                }
            }
        }
        Press ends = Rows.of(MAX, MIN, -1, MIN, MAX, 0);
        int[][] wants = {{4, 0, 2, 1, 5, 3}, {1, 3, 5, 4, 2, 0}, {0, 4, 3, 5, 1, 2}, {3, 0, 4, 1, 5, 2}};
        for (int order = 0; order < 4; order++) {
            for (int place = 0; place < 6; place++) {
                int at = place;
                int by = order;
                due.nothing("rank(" + at + ", " + by + ")", ends, () -> ends.rank(at, by), wants[by][at]);
            }
        }
    }

    private static int[] noPlaces(int size) {
        return new int[] {-1, -2, -size - 1, MIN, MIN + 1, size, size + 1, 500, 501, MAX};
    }

    private static void rankOfNoPlace() {
        for (int size : Rows.SIZES) {
            Press x = Rows.mixed(size);
            for (int place : noPlaces(size)) {
                due.nothing("rank(" + place + ", 0) of " + size, x, () -> x.rank(place, 0), -1);
            }
        }
    }

    private static void rankByNoOrder() {
        for (int size : Rows.SIZES) {
            Press x = Rows.mixed(size);
            for (int order : Rows.NO_ORDERS) {
                due.nothing("rank(0, " + order + ") of " + size, x, () -> x.rank(0, order), -1);
                due.nothing("rank(" + size + ", " + order + ") of " + size, x, () -> x.rank(size, order), -1);
            }
        }
    }

    private static void keyOfNoPlace() {
        for (int size : Rows.SIZES) {
            Press x = Rows.mixed(size);
            for (int place : noPlaces(size)) {
                due.nothing("key(" + place + ") of " + size, x, () -> x.key(place), 0);
            }
        }
        Press ends = Rows.of(MIN, 0, MAX);
        due.is("key(0)", ends.key(0), MIN);
        due.is("key(2)", ends.key(2), MAX);
    }

    private static void tagOfNoPlace() {
        for (int size : Rows.SIZES) {
            Press x = Rows.mixed(size);
            for (int place : noPlaces(size)) {
                due.nothing("tag(" + place + ") of " + size, x, () -> x.tag(place), 0);
            }
        }
        Press ends = new Press();
        ends.put(0, MIN);
        ends.put(0, MAX);
        due.is("tag(0)", ends.tag(0), MIN);
        due.is("tag(1)", ends.tag(1), MAX);
    }

    private static void count(Press x, int what, int want) {
        due.nothing("count(" + what + ")", x, () -> x.count(what), want);
    }

    private static void countPairs() {
        for (int size : Rows.SIZES) {
            count(Rows.mixed(size), 0, size);
        }
    }

    private static void countStretches() {
        count(new Press(), 1, 0);
        count(Rows.of(5), 1, 1);
        count(Rows.of(5, 5), 1, 1);
        count(Rows.of(5, 4), 1, 2);
        count(Rows.of(MAX, MIN), 1, 2);
        count(Rows.of(MIN, MAX), 1, 1);
        count(Rows.of(-1, 0), 1, 1);
        count(Rows.of(0, -1), 1, 2);
        count(Rows.of(2, 1, 1, 0), 1, 3);
        count(Rows.of(1, 2, 1, 2, 1), 1, 3);
        count(Rows.alike(500), 1, 1);
        Press down = new Press();
        down.run(500, 250, -1, 0);
        count(down, 1, 500);
        down.turn(0, 500);
        count(down, 1, 1);
        down.turn(498, 500);
        count(down, 1, 2);
    }

    private static void countKeys() {
        count(new Press(), 2, 0);
        count(Rows.of(5), 2, 1);
        count(Rows.of(5, 5), 2, 1);
        count(Rows.of(0), 2, 1);
        count(Rows.of(5, 261), 2, 2);
        count(Rows.of(MIN, MAX, -1, 0, MIN), 2, 4);
        count(Rows.of(1, 2, 1, 2, 1), 2, 2);
        count(Rows.alike(500), 2, 1);
        Press different = new Press();
        different.run(500, MAX - 100, 1, 0);
        count(different, 2, 500);
        Press twoKinds = new Press();
        twoKinds.run(500, 3, MIN, 0);
        count(twoKinds, 2, 2);
    }

    private static void countOfOthers() {
        for (int size : Rows.SIZES) {
            for (int what : new int[] {-1, 3, 4, 256, MIN, MAX}) {
                count(Rows.mixed(size), what, -1);
            }
        }
    }

    private static void checkOfNone() {
        Press x = new Press();
        due.nothing("check() of a new one", x, x::check, 1);
        x.run(500, 9, -1, 0);
        x.turn(0, 500);
        x.rotate(0, 100, 500);
        x.split(0, 500, 4, 0);
        x.thin(0);
        x.sorted(0, 500, 0);
        due.nothing("check() before any sort", x, x::check, 1);
        x.sort(4);
        x.sortPart(0, 501, 0);
        x.merge(0, 250, 500, 4);
        due.nothing("check() after refused ones", x, x::check, 1);
        x.clear();
        due.nothing("check() after clear", x, x::check, 1);
    }

    /** A row whose latest sort, as far as check() can see, has gone over its bounds. */
    private static Press overBounds() {
        Press x = Rows.mixed(500);
        x.sort(0);
        Counts.set(x, 8 * 500 * 9 + 1, 40 * 500 * 9 + 1);
        due.is("check() over the bounds", x.check(), 0);
        return x;
    }

    private static void checkOfTheLatest() {
        Press sort = overBounds();
        sort.sort(1);
        due.is("check() after sort", sort.check(), 1);
        Press sortPart = overBounds();
        sortPart.sortPart(100, 200, 1);
        due.is("check() after sortPart", sortPart.check(), 1);
        due.is("pairs of its stretch", Counts.pairs(sortPart), 100);
        Press merge = overBounds();
        merge.merge(100, 200, 300, 0);
        due.is("check() after merge", merge.check(), 1);
        due.is("pairs of both stretches", Counts.pairs(merge), 200);
    }

    private static void checkLeavesOutRefused() {
        Press x = overBounds();
        due.nothing("sort(4)", x, () -> x.sort(4), 0);
        due.nothing("sortPart(0, 501, 0)", x, () -> x.sortPart(0, 501, 0), 0);
        due.nothing("sortPart(0, 500, -1)", x, () -> x.sortPart(0, 500, -1), 0);
        due.nothing("merge(0, 250, 501, 0)", x, () -> x.merge(0, 250, 501, 0), 0);
        due.nothing("merge(0, 250, 500, 2)", x, () -> x.merge(0, 250, 500, 2), 0);
        due.nothing("merge(0, 250, 500, 4)", x, () -> x.merge(0, 250, 500, 4), 0);
        due.is("check() after refused ones", x.check(), 0);
        x.turn(0, 500);
        x.rotate(0, 100, 500);
        x.split(0, 500, 4, 0);
        x.sorted(0, 500, 0);
        x.rank(0, 0);
        x.clear();
        x.put(1, 1);
        x.thin(0);
        due.is("check() after calls of other kinds", x.check(), 0);
    }

    private static Press sortedOf(int n) {
        Press x = Rows.mixed(n);
        x.sort(0);
        return x;
    }

    /** None is left uncounted or counted twice, and none of an earlier call is counted. */
    private static void checkCountsTruly() {
        // Two that change places: one compare, and each of both places written to once.
        Press two = Rows.of(2, 1);
        two.sort(0);
        due.is("compares of two that change places", Counts.compares(two), 1);
        due.is("writes of two that change places", Counts.writes(two), 2);
        two.sortPart(1, 1, 0);
        due.is("compares of none", Counts.compares(two), 0);
        due.is("writes of none", Counts.writes(two), 0);
        Press merged = Rows.of(2, 1);
        merged.merge(0, 1, 2, 0);
        due.is("compares of a merge", Counts.compares(merged), 1);
        due.is("writes of a merge", Counts.writes(merged), 2);
        merged.merge(2, 2, 2, 0);
        due.is("compares of a merge of none", Counts.compares(merged), 0);
        due.is("writes of a merge of none", Counts.writes(merged), 0);
    }

    private static void checkCompares() {
        Press x = sortedOf(500);
        due.holds("compares of a sort of 500", Counts.compares(x) <= 8 * 500 * 9);
        Counts.set(x, 8 * 500 * 9, 0);
        due.is("check() of just as many compares", x.check(), 1);
        Counts.set(x, 8 * 500 * 9 + 1, 0);
        due.is("check() of one compare more", x.check(), 0);
    }

    private static void checkWrites() {
        Press x = sortedOf(500);
        due.holds("writes of a sort of 500", Counts.writes(x) <= 40 * 500 * 9);
        Counts.set(x, 0, 40 * 500 * 9);
        due.is("check() of just as many writes", x.check(), 1);
        Counts.set(x, 0, 40 * 500 * 9 + 1);
        due.is("check() of one write more", x.check(), 0);
    }

    private static void checkLevels() {
        int[][] levels = {{0, 1}, {1, 1}, {2, 1}, {3, 2}, {4, 2}, {5, 3}, {8, 3}, {9, 4}, {16, 4}, {17, 5},
            {32, 5}, {33, 6}, {64, 6}, {65, 7}, {128, 7}, {129, 8}, {256, 8}, {257, 9}, {500, 9}};
        for (int[] l : levels) {
            Press x = sortedOf(l[0]);
            int unit = l[0] * l[1];
            due.is("check() of " + l[0], x.check(), 1);
            Counts.set(x, 8 * unit, 40 * unit);
            due.is("check() of " + l[0] + " at both bounds", x.check(), 1);
            Counts.set(x, 8 * unit + 1, 0);
            due.is("check() of " + l[0] + " over the compares", x.check(), 0);
            Counts.set(x, 0, 40 * unit + 1);
            due.is("check() of " + l[0] + " over the writes", x.check(), 0);
        }
    }
}
