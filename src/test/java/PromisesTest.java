/** Promise by promise: ordinary inputs, the edges that the document names, and wrong inputs. */
public final class PromisesTest {
    private static final int MIN = Rows.MIN;
    private static final int MAX = Rows.MAX;
    private static final int[] NO_ORDERS = Rows.NO_ORDERS;
    private static final int[][] NO_STRETCHES = Rows.noStretches(5);
    private static final String FIVE = "3:0 1:1 2:2 1:3 3:4";

    private static final Due due = new Due();

    public static void main(String[] args) {
        newObject();
        put();
        run();
        clear();
        sort();
        sortPart();
        merge();
        rotate();
        turn();
        split();
        thin();
        sorted();
        find();
        rank();
        keyAndTag();
        count();
        check();
        readme();
        due.end();
    }

    private static void newObject() {
        Press x = new Press();
        due.is("NONE", RowPress.NONE, -1);
        due.is("new: count(0)", x.count(0), 0);
        due.is("new: key(0)", x.key(0), 0);
        due.is("new: tag(0)", x.tag(0), 0);
        due.is("new: clear()", x.clear(), 0);
        Press y = new Press();
        x.put(1, 2);
        due.is("new: another one's count(0)", y.count(0), 0);
    }

    private static void put() {
        Press x = new Press();
        due.is("put(7, 8)", x.put(7, 8), 1);
        due.is("put(7, 8) again", x.put(7, 8), 2);
        due.is("put(MIN, MAX)", x.put(MIN, MAX), 3);
        due.row("put", x, "7:8 7:8 -2147483648:2147483647");
        for (int i = 4; i <= 500; i++) {
            due.is("put number " + i, x.put(i, -i), i);
        }
        due.is("put number 501", x.put(9, 9), -1);
        due.is("count(0) of a full row", x.count(0), 500);
        due.is("key(499) of a full row", x.key(499), 500);
        due.is("tag(499) of a full row", x.tag(499), -500);
        due.is("key(500) of a full row", x.key(500), 0);
        x.clear();
        due.is("put after clear", x.put(1, 1), 1);
    }

    private static void run() {
        Press x = new Press();
        due.is("run(3, 10, -4, 5)", x.run(3, 10, -4, 5), 3);
        due.row("run", x, "10:5 6:6 2:7");
        due.is("run that runs over", x.run(3, MAX - 1, 2, MAX), 6);
        due.row("run that runs over", x, "10:5 6:6 2:7 2147483646:2147483647 -2147483648:-2147483648"
            + " -2147483646:-2147483647");
        due.is("run(2, 1, MIN, 0)", x.run(2, 1, MIN, 0), 8);
        due.is("key after a step of MIN", x.key(7), MIN + 1);
        for (int n : new int[] {0, -1, MIN, 501, MAX, 493, 500}) {
            due.is("run(" + n + ") with 8", x.run(n, 0, 0, 0), -1);
            due.is("count(0) after run(" + n + ")", x.count(0), 8);
        }
        due.is("run(492) with 8", x.run(492, 0, 1, 0), 500);
        due.is("last key", x.key(499), 491);
        due.is("run(1) with 500", x.run(1, 0, 0, 0), -1);
        due.is("count(0)", x.count(0), 500);
        Press y = new Press();
        due.is("run(501) with none", y.run(501, 0, 0, 0), -1);
        due.is("run(500) with none", y.run(500, 0, 0, 0), 500);
        Press z = new Press();
        due.is("run(1) with none", z.run(1, 4, 4, 4), 1);
        due.row("run(1)", z, "4:4");
    }

    private static void clear() {
        Press x = Rows.five();
        due.is("clear() of 5", x.clear(), 5);
        due.is("count(0) after clear", x.count(0), 0);
        due.is("key(0) after clear", x.key(0), 0);
        due.is("tag(4) after clear", x.tag(4), 0);
        due.is("clear() of none", x.clear(), 0);
        x.put(1, 1);
        due.is("clear() of one", x.clear(), 1);
        due.is("count(0) after clear of one", x.count(0), 0);
        x.run(500, 1, 1, 1);
        due.is("clear() of 500", x.clear(), 500);
        due.is("run after clear", x.run(500, 1, 1, 1), 500);
    }

    private static void sort() {
        int[] keys = {3, -1, 259, MIN, 3, MAX, 0, 256, -1, 1};
        String[] wants = {
            "-2147483648:3 -1:1 -1:8 0:6 1:9 3:0 3:4 256:7 259:2 2147483647:5",
            "0:6 1:9 3:0 3:4 256:7 259:2 2147483647:5 -2147483648:3 -1:1 -1:8",
            "2147483647:5 259:2 256:7 3:0 3:4 1:9 0:6 -1:1 -1:8 -2147483648:3",
            "-2147483648:3 0:6 256:7 1:9 3:0 259:2 3:4 -1:1 2147483647:5 -1:8",
        };
        for (int order = 0; order < wants.length; order++) {
            Press x = Rows.of(keys);
            due.is("sort(" + order + ")", x.sort(order), 1);
            due.row("sort(" + order + ")", x, wants[order]);
        }
        for (int order : NO_ORDERS) {
            Press x = Rows.five();
            due.is("sort(" + order + ")", x.sort(order), 0);
            due.row("sort(" + order + ")", x, FIVE);
            due.is("sort(" + order + ") of none", new Press().sort(order), 0);
        }
        due.is("sort(3) of none", new Press().sort(3), 1);
        Press one = Rows.of(9);
        due.is("sort(2) of one", one.sort(2), 1);
        due.row("sort(2) of one", one, "9:0");
        Press full = new Press();
        full.run(500, 0, 0, 0);
        due.is("sort(0) of 500 alike", full.sort(0), 1);
        for (int place = 0; place < 500; place++) {
            due.is("tag(" + place + ") of 500 alike", full.tag(place), place);
        }
    }

    private static void sortPart() {
        Press x = Rows.five();
        due.is("sortPart(0, 3, 0)", x.sortPart(0, 3, 0), 1);
        due.row("sortPart(0, 3, 0)", x, "1:1 2:2 3:0 1:3 3:4");
        due.is("sortPart(2, 5, 2)", x.sortPart(2, 5, 2), 1);
        due.row("sortPart(2, 5, 2)", x, "1:1 2:2 3:0 3:4 1:3");
        due.is("sortPart(0, 5, 0)", x.sortPart(0, 5, 0), 1);
        due.row("sortPart(0, 5, 0)", x, "1:1 1:3 2:2 3:0 3:4");
        due.is("sortPart(5, 5, 0)", x.sortPart(5, 5, 0), 1);
        due.is("sortPart(2, 2, 1)", x.sortPart(2, 2, 1), 1);
        due.is("sortPart(2, 3, 1)", x.sortPart(2, 3, 1), 1);
        due.row("sortPart of none and one", x, "1:1 1:3 2:2 3:0 3:4");
        Press y = Rows.five();
        for (int[] s : NO_STRETCHES) {
            due.is("sortPart(" + s[0] + ", " + s[1] + ", 0)", y.sortPart(s[0], s[1], 0), 0);
        }
        for (int order : NO_ORDERS) {
            due.is("sortPart(0, 5, " + order + ")", y.sortPart(0, 5, order), 0);
        }
        due.row("wrong sortParts", y, FIVE);
        due.is("sortPart(0, 0, 0) of none", new Press().sortPart(0, 0, 0), 1);
        due.is("sortPart(0, 1, 0) of none", new Press().sortPart(0, 1, 0), 0);
    }

    private static void merge() {
        Press x = Rows.of(9, 1, 3, 3, 5, 1, 2, 3, 5, 0);
        due.is("merge(1, 5, 9, 0)", x.merge(1, 5, 9, 0), 1);
        due.row("merge(1, 5, 9, 0)", x, "9:0 1:1 1:5 2:6 3:2 3:3 3:7 5:4 5:8 0:9");
        due.is("merge(0, 1, 10, 0), the second not sorted", x.merge(0, 1, 10, 0), 0);
        due.is("merge(0, 9, 10, 0), the first not sorted", x.merge(0, 9, 10, 0), 0);
        due.row("merges of what is not sorted", x, "9:0 1:1 1:5 2:6 3:2 3:3 3:7 5:4 5:8 0:9");
        due.is("merge(0, 1, 9, 0)", x.merge(0, 1, 9, 0), 1);
        due.row("merge(0, 1, 9, 0)", x, "1:1 1:5 2:6 3:2 3:3 3:7 5:4 5:8 9:0 0:9");
        due.is("merge(0, 9, 10, 0)", x.merge(0, 9, 10, 0), 1);
        due.row("merge(0, 9, 10, 0)", x, "0:9 1:1 1:5 2:6 3:2 3:3 3:7 5:4 5:8 9:0");
        due.is("merge(0, 0, 10, 0)", x.merge(0, 0, 10, 0), 1);
        due.is("merge(0, 10, 10, 0)", x.merge(0, 10, 10, 0), 1);
        due.is("merge(10, 10, 10, 0)", x.merge(10, 10, 10, 0), 1);
        due.row("merges with none", x, "0:9 1:1 1:5 2:6 3:2 3:3 3:7 5:4 5:8 9:0");
        mergeByOtherOrders();
        Press y = Rows.of(1, 3, 0, 2, 4);
        for (int[] s : NO_STRETCHES) {
            due.is("merge(0, " + s[0] + ", " + s[1] + ", 0)", y.merge(0, s[0], s[1], 0), 0);
            due.is("merge(" + s[0] + ", " + s[1] + ", 5, 0)", y.merge(s[0], s[1], 5, 0), 0);
        }
        for (int order : NO_ORDERS) {
            due.is("merge(0, 2, 5, " + order + ")", y.merge(0, 2, 5, order), 0);
            due.is("merge(0, 0, 0, " + order + ")", y.merge(0, 0, 0, order), 0);
        }
        due.row("wrong merges", y, "1:0 3:1 0:2 2:3 4:4");
    }

    private static void mergeByOtherOrders() {
        Press unsigned = Rows.of(1, -1, 0, MAX, MIN);
        due.is("merge(0, 2, 5, 0)", unsigned.merge(0, 2, 5, 0), 0);
        due.is("merge(0, 2, 5, 1)", unsigned.merge(0, 2, 5, 1), 1);
        due.row("merge by 1", unsigned, "0:2 1:0 2147483647:3 -2147483648:4 -1:1");
        Press down = Rows.of(3, 1, 3, 2, 1);
        due.is("merge(0, 2, 5, 2)", down.merge(0, 2, 5, 2), 1);
        due.row("merge by 2", down, "3:0 3:2 2:3 1:1 1:4");
        Press low = Rows.of(257, 2, 1, 258, 255);
        due.is("merge(0, 2, 5, 3)", low.merge(0, 2, 5, 3), 1);
        due.row("merge by 3", low, "257:0 1:2 2:1 258:3 255:4");
    }

    private static void rotate() {
        Press x = Rows.five();
        due.is("rotate(0, 2, 5)", x.rotate(0, 2, 5), 1);
        due.row("rotate(0, 2, 5)", x, "2:2 1:3 3:4 3:0 1:1");
        due.is("rotate(1, 3, 4)", x.rotate(1, 3, 4), 1);
        due.row("rotate(1, 3, 4)", x, "2:2 3:0 1:3 3:4 1:1");
        due.is("rotate(0, 0, 5)", x.rotate(0, 0, 5), 1);
        due.is("rotate(0, 5, 5)", x.rotate(0, 5, 5), 1);
        due.is("rotate(5, 5, 5)", x.rotate(5, 5, 5), 1);
        due.row("rotates with none", x, "2:2 3:0 1:3 3:4 1:1");
        Press y = Rows.five();
        for (int[] s : NO_STRETCHES) {
            due.is("rotate(0, " + s[0] + ", " + s[1] + ")", y.rotate(0, s[0], s[1]), 0);
            due.is("rotate(" + s[0] + ", " + s[1] + ", 5)", y.rotate(s[0], s[1], 5), 0);
        }
        due.row("wrong rotates", y, FIVE);
    }

    private static void turn() {
        Press x = Rows.five();
        due.is("turn(0, 5)", x.turn(0, 5), 1);
        due.row("turn(0, 5)", x, "3:4 1:3 2:2 1:1 3:0");
        due.is("turn(1, 5)", x.turn(1, 5), 1);
        due.row("turn(1, 5)", x, "3:4 3:0 1:1 2:2 1:3");
        due.is("turn(0, 0)", x.turn(0, 0), 1);
        due.is("turn(5, 5)", x.turn(5, 5), 1);
        due.is("turn(2, 3)", x.turn(2, 3), 1);
        due.row("turns of none and one", x, "3:4 3:0 1:1 2:2 1:3");
        Press y = Rows.five();
        for (int[] s : NO_STRETCHES) {
            due.is("turn(" + s[0] + ", " + s[1] + ")", y.turn(s[0], s[1]), 0);
        }
        due.row("wrong turns", y, FIVE);
    }

    private static void split() {
        Press x = Rows.of(5, 3, 9, 4, 5, 1, 7, 4);
        due.is("split(0, 8, 5, 0)", x.split(0, 8, 5, 0), 4);
        due.row("split(0, 8, 5, 0)", x, "3:1 4:3 1:5 4:7 5:0 9:2 5:4 7:6");
        due.is("split(2, 7, 5, 2)", x.split(2, 7, 5, 2), 1);
        due.row("split(2, 7, 5, 2)", x, "3:1 4:3 9:2 1:5 4:7 5:0 5:4 7:6");
        due.is("split(0, 8, 1, 0)", x.split(0, 8, 1, 0), 0);
        due.is("split(0, 8, 10, 0)", x.split(0, 8, 10, 0), 8);
        due.is("split(3, 3, 10, 0)", x.split(3, 3, 10, 0), 0);
        due.is("split(8, 8, 10, 0)", x.split(8, 8, 10, 0), 0);
        due.is("split(3, 4, 10, 0)", x.split(3, 4, 10, 0), 1);
        due.row("splits that move nothing", x, "3:1 4:3 9:2 1:5 4:7 5:0 5:4 7:6");
        Press unsigned = Rows.of(-1, MIN, 0, MAX);
        due.is("split by 1", unsigned.split(0, 4, MIN, 1), 2);
        due.row("split by 1", unsigned, "0:2 2147483647:3 -1:0 -2147483648:1");
        Press low = Rows.of(258, 1, 3, 257);
        due.is("split by 3", low.split(0, 4, 514, 3), 2);
        due.row("split by 3", low, "1:1 257:3 258:0 3:2");
        Press y = Rows.five();
        for (int[] s : NO_STRETCHES) {
            due.is("split(" + s[0] + ", " + s[1] + ", 2, 0)", y.split(s[0], s[1], 2, 0), -1);
        }
        for (int order : NO_ORDERS) {
            due.is("split(0, 5, 2, " + order + ")", y.split(0, 5, 2, order), -1);
        }
        due.row("wrong splits", y, FIVE);
    }

    private static void thin() {
        Press x = Rows.of(1, 1, 1, 2, 3, 3);
        due.is("thin(2) of a row upward", x.thin(2), -1);
        due.is("count(0) after it", x.count(0), 6);
        due.is("thin(0)", x.thin(0), 3);
        due.row("thin(0)", x, "1:0 2:3 3:4");
        due.is("thin(0) again", x.thin(0), 3);
        Press low = Rows.of(256, 0, 513, 1, 1);
        due.is("thin(0) of what only 3 sorts", low.thin(0), -1);
        due.is("thin(3)", low.thin(3), 2);
        due.row("thin(3)", low, "256:0 513:2");
        Press unsigned = Rows.of(0, 0, MAX, MIN, MIN, -1);
        due.is("thin(1)", unsigned.thin(1), 4);
        due.row("thin(1)", unsigned, "0:0 2147483647:2 -2147483648:3 -1:5");
        Press down = Rows.of(3, 3, 1);
        due.is("thin(2)", down.thin(2), 2);
        due.row("thin(2)", down, "3:0 1:2");
        Press y = Rows.five();
        for (int order = 0; order < 4; order++) {
            due.is("thin(" + order + ") of a row not sorted", y.thin(order), -1);
        }
        for (int order : NO_ORDERS) {
            due.is("thin(" + order + ")", y.thin(order), -1);
            due.is("thin(" + order + ") of none", new Press().thin(order), -1);
        }
        due.row("wrong thins", y, FIVE);
        due.is("thin(0) of none", new Press().thin(0), 0);
        Press full = new Press();
        full.run(500, 7, 0, 1);
        due.is("thin(0) of 500 alike", full.thin(0), 1);
        due.row("thin(0) of 500 alike", full, "7:1");
    }

    private static void sorted() {
        Press x = Rows.of(-1, 0, 0, 256, 5);
        int[] wants = {1, 0, 0, 0};
        for (int order = 0; order < 4; order++) {
            due.is("sorted(0, 4, " + order + ")", x.sorted(0, 4, order), wants[order]);
            due.is("sorted(1, 4, " + order + ")", x.sorted(1, 4, order), order == 2 ? 0 : 1);
            due.is("sorted(1, 3, " + order + ")", x.sorted(1, 3, order), 1);
            due.is("sorted(5, 5, " + order + ")", x.sorted(5, 5, order), 1);
            due.is("sorted(4, 5, " + order + ")", x.sorted(4, 5, order), 1);
        }
        due.is("sorted(3, 5, 0)", x.sorted(3, 5, 0), 0);
        due.is("sorted(3, 5, 2)", x.sorted(3, 5, 2), 1);
        due.is("sorted(3, 5, 3)", x.sorted(3, 5, 3), 1);
        due.is("sorted(0, 5, 0)", x.sorted(0, 5, 0), 0);
        for (int[] s : NO_STRETCHES) {
            due.is("sorted(" + s[0] + ", " + s[1] + ", 0)", x.sorted(s[0], s[1], 0), -1);
        }
        for (int order : NO_ORDERS) {
            due.is("sorted(0, 5, " + order + ")", x.sorted(0, 5, order), -1);
        }
        due.is("sorted by 3: 127, 128", Rows.of(127, 128).sorted(0, 2, 3), 1);
        due.is("sorted by 3: 128, 127", Rows.of(128, 127).sorted(0, 2, 3), 0);
        due.is("sorted by 3: 128, 256", Rows.of(128, 256).sorted(0, 2, 3), 0);
        due.is("sorted(0, 0, 0) of none", new Press().sorted(0, 0, 0), 1);
    }

    private static void find() {
        Press x = Rows.of(1, 3, 3, 5);
        int[][] wants = {{0, 0, 0}, {1, 0, 1}, {2, 1, 1}, {3, 1, 3}, {4, 3, 3}, {5, 3, 4}, {6, 4, 4},
            {MIN, 0, 0}, {MAX, 4, 4}};
        for (int[] w : wants) {
            due.is("find(" + w[0] + ", 0, 0)", x.find(w[0], 0, 0), w[1]);
            due.is("find(" + w[0] + ", 0, 1)", x.find(w[0], 0, 1), w[2]);
        }
        due.is("find(3, 2, 0) of a row upward", x.find(3, 2, 0), -1);
        for (int equal : new int[] {-1, 2, MIN, MAX}) {
            due.is("find(3, 0, " + equal + ")", x.find(3, 0, equal), -1);
        }
        for (int order : NO_ORDERS) {
            due.is("find(3, " + order + ", 0)", x.find(3, order, 0), -1);
        }
        Press down = Rows.of(5, 3, 3, 1);
        due.is("find(3, 2, 0)", down.find(3, 2, 0), 1);
        due.is("find(3, 2, 1)", down.find(3, 2, 1), 3);
        due.is("find(3, 0, 0) of a row downward", down.find(3, 0, 0), -1);
        Press unsigned = Rows.of(0, MAX, MIN, -1);
        due.is("find(-1, 1, 0)", unsigned.find(-1, 1, 0), 3);
        due.is("find(MIN, 1, 1)", unsigned.find(MIN, 1, 1), 3);
        Press low = Rows.of(256, 1, 513, 255);
        due.is("find(257, 3, 0)", low.find(257, 3, 0), 1);
        due.is("find(257, 3, 1)", low.find(257, 3, 1), 3);
        due.is("find(-1, 3, 1)", low.find(-1, 3, 1), 4);
        due.is("find(7, 0, 1) of none", new Press().find(7, 0, 1), 0);
        due.is("find(7, 4, 1) of none", new Press().find(7, 4, 1), -1);
    }

    private static void rank() {
        Press x = Rows.of(3, 1, 258, 1, 3);
        int[][] wants = {{2, 0, 4, 1, 3}, {2, 0, 4, 1, 3}, {1, 3, 0, 4, 2}, {3, 0, 2, 1, 4}};
        for (int order = 0; order < 4; order++) {
            for (int place = 0; place < 5; place++) {
                due.is("rank(" + place + ", " + order + ")", x.rank(place, order), wants[order][place]);
            }
        }
        due.is("rank(0, 1) of -1 before 0", Rows.of(-1, 0).rank(0, 1), 1);
        for (int place : new int[] {-1, 5, 499, 500, MIN, MAX}) {
            due.is("rank(" + place + ", 0)", x.rank(place, 0), -1);
        }
        for (int order : NO_ORDERS) {
            due.is("rank(0, " + order + ")", x.rank(0, order), -1);
        }
        due.is("rank(0, 0) of none", new Press().rank(0, 0), -1);
        due.row("ranks", x, "3:0 1:1 258:2 1:3 3:4");
    }

    private static void keyAndTag() {
        Press x = new Press();
        x.put(11, 21);
        x.put(MIN, MAX);
        due.is("key(0)", x.key(0), 11);
        due.is("tag(0)", x.tag(0), 21);
        due.is("key(1)", x.key(1), MIN);
        due.is("tag(1)", x.tag(1), MAX);
        for (int place : new int[] {-1, 2, 499, 500, 501, MIN, MAX}) {
            due.is("key(" + place + ")", x.key(place), 0);
            due.is("tag(" + place + ")", x.tag(place), 0);
        }
        x.sort(0);
        x.put(11, 5);
        x.thin(0);
        due.is("key(2) of one thinned out", x.key(2), 0);
        due.is("tag(2) of one thinned out", x.tag(2), 0);
    }

    private static void count() {
        Press x = Rows.of(1, 2, 2, 1, 257, 0, -1);
        due.is("count(0)", x.count(0), 7);
        due.is("count(1)", x.count(1), 4);
        due.is("count(2)", x.count(2), 5);
        for (int what : new int[] {-1, 3, MIN, MAX}) {
            due.is("count(" + what + ")", x.count(what), -1);
        }
        Press none = new Press();
        due.is("count(1) of none", none.count(1), 0);
        due.is("count(2) of none", none.count(2), 0);
        due.is("count(1) of one", Rows.of(5).count(1), 1);
        due.is("count(2) of one", Rows.of(5).count(2), 1);
        due.is("count(1) of alike", Rows.of(5, 5, 5).count(1), 1);
        due.is("count(2) of alike", Rows.of(5, 5, 5).count(2), 1);
        due.is("count(1) of MIN, MAX", Rows.of(MIN, MAX).count(1), 1);
        due.is("count(1) of MAX, MIN", Rows.of(MAX, MIN).count(1), 2);
        Press full = new Press();
        full.run(500, 500, -1, 0);
        due.is("count(0) of 500", full.count(0), 500);
        due.is("count(1) of 500 downward", full.count(1), 500);
        due.is("count(2) of 500", full.count(2), 500);
    }

    /** What check() has to tell in other states is in CheckTest. */
    private static void check() {
        Press x = new Press();
        due.is("check() of a new one", x.check(), 1);
        x.sort(0);
        due.is("check() after a sort of none", x.check(), 1);
        x.run(500, 3, 1234567, 0);
        due.is("check() before another sort", x.check(), 1);
        for (int order = 0; order < 4; order++) {
            x.sort(order);
            due.is("check() after sort(" + order + ") of 500", x.check(), 1);
        }
        x.clear();
        due.is("check() after clear", x.check(), 1);
    }

    /** The answers that README.md shows. */
    private static void readme() {
        RowPress row = new RowPress();
        due.is("README: put", row.put(3, 100), 1);
        due.is("README: put", row.put(1, 101), 2);
        due.is("README: run", row.run(3, 1, 1, 200), 5);
        due.is("README: rank", row.rank(0, 0), 3);
        due.is("README: sort", row.sort(0), 1);
        due.is("README: find", row.find(3, 0, 0), 3);
        due.is("README: thin", row.thin(0), 3);
        due.is("README: key", row.key(1), 2);
        due.is("README: tag", row.tag(1), 201);
        due.is("README: key, no such place", row.key(3), 0);
        due.is("README: sort, no such order", row.sort(4), 0);
        due.is("README: check", row.check(), 1);
    }
}
