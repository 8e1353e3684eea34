/** The edges that the document names for rotate, turn, split and thin, a sentence at a time. */
public final class MovingEdgesTest {
    private static final int MIN = Rows.MIN;
    private static final int MAX = Rows.MAX;

    private static final Due due = new Due();

    public static void main(String[] args) {
        due.sentence("8: What stands from mid to before to comes before", MovingEdgesTest::rotateAny);
        due.sentence("8: 1, also of stretches without a pair", MovingEdgesTest::rotateNone);
        due.sentence("8: 0, and nothing is done, when one is none, the first", MovingEdgesTest::rotateWithoutFirst);
        due.sentence("8: 0, and nothing is done, when one is none, the second",
            MovingEdgesTest::rotateWithoutSecond);
        due.sentence("9: A stretch the other way round: 1", MovingEdgesTest::turnAny);
        due.sentence("9: 0, and nothing is done, when it is none", MovingEdgesTest::turnOfNoStretch);
        due.sentence("10: all pairs with less keys come first: how many", MovingEdgesTest::splitAny);
        due.sentence("10: less: none, all, and those alike are not", MovingEdgesTest::splitAtTheEnds);
        due.sentence("10: each of both as they stood", MovingEdgesTest::splitKeepsBoth);
        due.sentence("10: NONE, and nothing is done, when it is none", MovingEdgesTest::splitOfNoStretch);
        due.sentence("10: or there is no such order", MovingEdgesTest::splitByNoOrder);
        due.sentence("11: Of pairs alike by an order only the first one stays: how many are left",
            MovingEdgesTest::thinAny);
        due.sentence("11: only the first one stays in the row", MovingEdgesTest::thinnedOutAreGone);
        due.sentence("11: NONE, and nothing is done, when the row is not sorted by it",
            MovingEdgesTest::thinOfNotSorted);
        due.sentence("11: or there is no such order", MovingEdgesTest::thinByNoOrder);
        due.end();
    }

    private static void rotateAny() {
        for (int[] s : new int[][] {{0, 250, 500}, {0, 1, 500}, {0, 499, 500}, {498, 499, 500}, {0, 1, 2},
            {1, 2, 499}, {3, 5, 10}, {3, 8, 10}}) {
            Press x = Rows.mixed(500);
            String call = "rotate(" + s[0] + ", " + s[1] + ", " + s[2] + ")";
            due.is(call, x.rotate(s[0], s[1], s[2]), 1);
            for (int place = 0; place < 500; place++) {
                int want = place;
                if (place >= s[0] && place < s[2]) {
                    int seconds = s[2] - s[1];
                    want = place < s[0] + seconds ? place + s[1] - s[0] : place - seconds;
                }
                due.is("tag(" + place + ") after " + call, x.tag(place), want);
                due.is("key(" + place + ") after " + call, x.key(place), 77 + want * 1234567891);
            }
        }
    }

    private static void rotateNone() {
        for (int size : Rows.SIZES) {
            Press x = Rows.mixed(size);
            for (int[] s : Rows.stretches(size)) {
                String call = "rotate of " + s[0] + " to " + s[1] + " of " + size;
                due.nothing(call + ", the first empty", x, () -> x.rotate(s[0], s[0], s[1]), 1);
                due.nothing(call + ", the second empty", x, () -> x.rotate(s[0], s[1], s[1]), 1);
            }
        }
    }

    private static void rotateWithoutFirst() {
        for (int size : Rows.SIZES) {
            Press x = Rows.mixed(size);
            for (int[] s : Rows.noStretches(size)) {
                due.nothing("rotate(" + s[0] + ", " + s[1] + ", " + size + ") of " + size, x,
                    () -> x.rotate(s[0], s[1], size), 0);
            }
        }
        Press x = Rows.five();
        due.nothing("rotate(3, 2, 5)", x, () -> x.rotate(3, 2, 5), 0);
        due.nothing("rotate(-1, 2, 5)", x, () -> x.rotate(-1, 2, 5), 0);
        due.nothing("rotate(-1, 0, 0)", x, () -> x.rotate(-1, 0, 0), 0);
    }

    private static void rotateWithoutSecond() {
        for (int size : Rows.SIZES) {
            Press x = Rows.mixed(size);
            for (int[] s : Rows.noStretches(size)) {
                due.nothing("rotate(0, " + s[0] + ", " + s[1] + ") of " + size, x,
                    () -> x.rotate(0, s[0], s[1]), 0);
            }
        }
        Press x = Rows.five();
        due.nothing("rotate(0, 3, 2)", x, () -> x.rotate(0, 3, 2), 0);
        due.nothing("rotate(0, 3, 6)", x, () -> x.rotate(0, 3, 6), 0);
        due.nothing("rotate(5, 5, 6)", x, () -> x.rotate(5, 5, 6), 0);
        due.nothing("rotate(0, 6, 6)", x, () -> x.rotate(0, 6, 6), 0);
    }

    private static void turnAny() {
        for (int size : Rows.SIZES) {
            for (int[] s : Rows.stretches(size)) {
                Press x = Rows.mixed(size);
                String call = "turn(" + s[0] + ", " + s[1] + ") of " + size;
                due.is(call, x.turn(s[0], s[1]), 1);
                due.is("count(0) after " + call, x.count(0), size);
                for (int place = 0; place < size; place++) {
                    int want = place < s[0] || place >= s[1] ? place : s[0] + s[1] - 1 - place;
                    due.is("tag(" + place + ") after " + call, x.tag(place), want);
                    due.is("key(" + place + ") after " + call, x.key(place), 77 + want * 1234567891);
                }
            }
        }
    }

    private static void turnOfNoStretch() {
        for (int size : Rows.SIZES) {
            Press x = Rows.mixed(size);
            for (int[] s : Rows.noStretches(size)) {
                due.nothing("turn(" + s[0] + ", " + s[1] + ") of " + size, x, () -> x.turn(s[0], s[1]), 0);
            }
        }
    }

    private static void splitAny() {
        for (int size : Rows.SIZES) {
            for (int[] s : Rows.stretches(size)) {
                Press x = Rows.mixed(size);
                int less = 0;
                for (int place = s[0]; place < s[1]; place++) {
                    less += x.key(place) < 100 ? 1 : 0;
                }
                String before = Rows.text(x, 0, s[0]);
                String behind = Rows.text(x, s[1], size);
                String call = "split(" + s[0] + ", " + s[1] + ", 100, 0) of " + size;
                due.is(call, x.split(s[0], s[1], 100, 0), less);
                for (int place = s[0]; place < s[1]; place++) {
                    due.is("less at " + place + " after " + call, x.key(place) < 100 ? 1 : 0,
                        place < s[0] + less ? 1 : 0);
                }
                due.holds(call + " before it", Rows.text(x, 0, s[0]).equals(before));
                due.holds(call + " behind it", Rows.text(x, s[1], size).equals(behind));
            }
        }
    }

    private static void splitAtTheEnds() {
        // By each order: a key than which none is less, and one that all but it are less than.
        int[][] ends = {{MIN, MAX}, {0, -1}, {MAX, MIN}, {256, -1}};
        for (int order = 0; order < 4; order++) {
            int by = order;
            Press x = Rows.of(5, 3, 5, 700, 4);
            due.nothing("split(0, 5, the least, " + by + ")", x, () -> x.split(0, 5, ends[by][0], by), 0);
            due.nothing("split(0, 5, the most, " + by + ")", x, () -> x.split(0, 5, ends[by][1], by), 5);
            Press most = Rows.of(ends[by][1], ends[by][1]);
            due.nothing("split at the most of the most, " + by, most, () -> most.split(0, 2, ends[by][1], by), 0);
            Press alike = Rows.alike(500);
            due.nothing("split of 500 alike, " + by, alike, () -> alike.split(0, 500, 7, by), 0);
        }
        Press one = Rows.of(4);
        due.nothing("split of one less", one, () -> one.split(0, 1, 5, 0), 1);
        due.nothing("split of one not less", one, () -> one.split(0, 1, 4, 0), 0);
        due.nothing("split of none at its end", one, () -> one.split(1, 1, 5, 0), 0);
    }

    private static void splitKeepsBoth() {
        for (int size : Rows.SIZES) {
            for (int order = 0; order < 4; order++) {
                Press x = Rows.mixed(size);
                int less = x.split(0, size, 100, order);
                for (int place = 1; place < size; place++) {
                    due.holds("tags at " + place + " of " + size + " by " + order,
                        place == less || x.tag(place - 1) < x.tag(place));
                }
            }
        }
    }

    private static void splitOfNoStretch() {
        for (int size : Rows.SIZES) {
            Press x = Rows.mixed(size);
            for (int[] s : Rows.noStretches(size)) {
                due.nothing("split(" + s[0] + ", " + s[1] + ", 100, 0) of " + size, x,
                    () -> x.split(s[0], s[1], 100, 0), -1);
            }
        }
    }

    private static void splitByNoOrder() {
        for (int size : Rows.SIZES) {
            Press x = Rows.mixed(size);
            for (int order : Rows.NO_ORDERS) {
                for (int[] s : Rows.stretches(size)) {
                    due.nothing("split(" + s[0] + ", " + s[1] + ", 100, " + order + ") of " + size, x,
                        () -> x.split(s[0], s[1], 100, order), -1);
                }
            }
        }
    }

    private static void thinAny() {
        for (int order = 0; order < 4; order++) {
            due.is("thin(" + order + ") of none", new Press().thin(order), 0);
            Press one = Rows.of(-300);
            int by = order;
            due.nothing("thin(" + by + ") of one", one, () -> one.thin(by), 1);
            Press alike = Rows.alike(500);
            due.is("thin(" + by + ") of 500 alike", alike.thin(by), 1);
            due.row("thin(" + by + ") of 500 alike", alike, "7:0");
        }
        Press up = new Press();
        up.run(500, -250, 1, 0);
        due.nothing("thin(0) of 500 different", up, () -> up.thin(0), 500);
        Press last = Rows.of(1, 2, 3, 3);
        due.is("thin(0), the last two alike", last.thin(0), 3);
        due.row("thin(0), the last two alike", last, "1:0 2:1 3:2");
        Press first = Rows.of(3, 3, 2, 1);
        due.is("thin(2), the first two alike", first.thin(2), 3);
        due.row("thin(2), the first two alike", first, "3:0 2:2 1:3");
        Press low = Rows.of(256, 0, MIN, 1, 257, -1, MAX);
        due.is("thin(3), alike by 3 alone", low.thin(3), 3);
        due.row("thin(3), alike by 3 alone", low, "256:0 1:3 -1:5");
        Press ends = Rows.of(0, 0, MAX, MIN, -1, -1);
        due.is("thin(1), the ends alike", ends.thin(1), 4);
        due.row("thin(1), the ends alike", ends, "0:0 2147483647:2 -2147483648:3 -1:4");
    }

    private static void thinnedOutAreGone() {
        Press x = Rows.alike(500);
        x.thin(0);
        for (int place = 1; place < 500; place++) {
            due.is("key(" + place + ")", x.key(place), 0);
            due.is("tag(" + place + ")", x.tag(place), 0);
        }
        due.is("turn(0, 2)", x.turn(0, 2), 0);
        due.is("rank(1, 0)", x.rank(1, 0), -1);
        due.is("find(7, 0, 1)", x.find(7, 0, 1), 1);
        due.is("run(500) with one left", x.run(500, 1, 1, 1), -1);
        due.is("run(499) with one left", x.run(499, 8, 1, 1), 500);
        due.is("key(1) then", x.key(1), 8);
    }

    private static void thinOfNotSorted() {
        for (int[] keys : new int[][] {{2, 1, 1, 3, 4}, {1, 1, 3, 2, 4}, {1, 1, 2, 4, 3}}) {
            Press x = Rows.of(keys);
            for (int order = 0; order < 4; order++) {
                int by = order;
                due.nothing("thin(" + by + ")", x, () -> x.thin(by), -1);
            }
        }
        int[][] sortedBy = {{-1, 0, 255, 256}, {255, 256, MIN, -1}, {256, 255, 0, -1}, {256, 0, -1, 255}};
        for (int sorted = 0; sorted < 4; sorted++) {
            for (int order = 0; order < 4; order++) {
                Press x = Rows.of(sortedBy[sorted]);
                int by = order;
                if (order == sorted) {
                    due.is("thin(" + by + ") of one sorted by it", x.thin(by), by == 3 ? 2 : 4);
                } else {
                    due.nothing("thin(" + by + ") of one sorted by " + sorted, x, () -> x.thin(by), -1);
                }
            }
        }
        Press full = Rows.mixed(500);
        full.sort(0);
        full.turn(498, 500);
        due.nothing("thin(0) of 500, the last two not sorted", full, () -> full.thin(0), -1);
    }

    private static void thinByNoOrder() {
        for (int order : Rows.NO_ORDERS) {
            for (int size : new int[] {1, 5, 500}) {
                Press x = Rows.alike(size);
                due.nothing("thin(" + order + ") of " + size + " alike", x, () -> x.thin(order), -1);
            }
            Press none = new Press();
            due.nothing("thin(" + order + ") of none", none, () -> none.thin(order), -1);
        }
    }
}
