/** The edges that the document names for a new object, put, run and clear, a sentence at a time. */
public final class FillingEdgesTest {
    private static final int MIN = Rows.MIN;
    private static final int MAX = Rows.MAX;

    private static final Due due = new Due();

    public static void main(String[] args) {
        due.sentence("Terms: the row has at most 500", FillingEdgesTest::atMost500);
        due.sentence("Terms: at places from 0 on", FillingEdgesTest::placesFrom0);
        due.sentence("NONE = -1", () -> due.is("NONE", RowPress.NONE, -1));
        due.sentence("1: An empty row", FillingEdgesTest::emptyRow);
        due.sentence("2: One more pair at the end: how many there are", FillingEdgesTest::putAtTheEnd);
        due.sentence("2: NONE when there are 500", FillingEdgesTest::putWhenFull);
        due.sentence("3: the keys more by a step each time (ints that run over)", FillingEdgesTest::keysRunOver);
        due.sentence("3: the tags by 1", FillingEdgesTest::tagsRunOver);
        due.sentence("3: when n is not 1 .. 500", FillingEdgesTest::runOfNoSuchNumber);
        due.sentence("3: or there would be more than 500", FillingEdgesTest::runOfTooMany);
        due.sentence("3: NONE, and nothing is done", FillingEdgesTest::refusedRunLeavesNoPart);
        due.sentence("4: No pairs: how many there were", FillingEdgesTest::clearTellsHowMany);
        due.sentence("4: No pairs", FillingEdgesTest::clearLeavesNone);
        due.sentence("at most 512 calls", FillingEdgesTest::calls512);
        due.end();
    }

    private static void atMost500() {
        Press x = new Press();
        due.is("run(498)", x.run(498, 0, 1, 0), 498);
        due.is("put, the 499th", x.put(-1, -1), 499);
        due.is("run(1), the 500th", x.run(1, -2, 0, -2), 500);
        due.nothing("put, the 501st", x, () -> x.put(5, 5), -1);
        due.nothing("run(1), the 501st", x, () -> x.run(1, 5, 5, 5), -1);
        due.is("count(0)", x.count(0), 500);
        due.is("key(499)", x.key(499), -2);
        due.is("key(498)", x.key(498), -1);
    }

    private static void placesFrom0() {
        for (int size : Rows.SIZES) {
            Press x = new Press();
            if (size > 0) {
                x.run(size, 1000, 1, 2000);
            }
            for (int place = 0; place < size; place++) {
                due.is("key(" + place + ") of " + size, x.key(place), 1000 + place);
                due.is("tag(" + place + ") of " + size, x.tag(place), 2000 + place);
            }
            due.is("key(-1) of " + size, x.key(-1), 0);
            due.is("key(" + size + ") of " + size, x.key(size), 0);
        }
    }

    private static void emptyRow() {
        for (int what = 0; what < 3; what++) {
            due.is("count(" + what + ")", new Press().count(what), 0);
        }
        due.is("clear()", new Press().clear(), 0);
        due.is("key(0)", new Press().key(0), 0);
        due.is("tag(0)", new Press().tag(0), 0);
        due.is("check()", new Press().check(), 1);
        due.is("turn(0, 0)", new Press().turn(0, 0), 1);
        due.is("turn(0, 1)", new Press().turn(0, 1), 0);
        due.is("rotate(0, 0, 0)", new Press().rotate(0, 0, 0), 1);
        due.is("rotate(0, 0, 1)", new Press().rotate(0, 0, 1), 0);
        for (int order = 0; order < 4; order++) {
            due.is("sort(" + order + ")", new Press().sort(order), 1);
            due.is("sortPart(0, 0, " + order + ")", new Press().sortPart(0, 0, order), 1);
            due.is("merge(0, 0, 0, " + order + ")", new Press().merge(0, 0, 0, order), 1);
            due.is("split(0, 0, 1, " + order + ")", new Press().split(0, 0, 1, order), 0);
            due.is("thin(" + order + ")", new Press().thin(order), 0);
            due.is("sorted(0, 0, " + order + ")", new Press().sorted(0, 0, order), 1);
            due.is("find(1, " + order + ", 0)", new Press().find(1, order, 0), 0);
            due.is("find(1, " + order + ", 1)", new Press().find(1, order, 1), 0);
            due.is("rank(0, " + order + ")", new Press().rank(0, order), -1);
        }
        Press full = Rows.mixed(500);
        due.is("another object beside a full one", new Press().count(0), 0);
        due.is("the full one", full.count(0), 500);
    }

    private static void putAtTheEnd() {
        Press x = new Press();
        for (int i = 1; i <= 500; i++) {
            due.is("put number " + i, x.put(-i, i), i);
            due.is("its key", x.key(i - 1), -i);
            due.is("its tag", x.tag(i - 1), i);
            due.is("the first one's key", x.key(0), -1);
        }
    }

    private static void putWhenFull() {
        Press x = Rows.mixed(499);
        due.is("put with 499", x.put(1, 2), 500);
        for (int i = 0; i < 3; i++) {
            due.nothing("put with 500", x, () -> x.put(MAX, MIN), -1);
        }
        x.sort(3);
        due.is("thin(3)", x.thin(3), x.count(0));
        due.is("put when some were thinned out", x.put(3, 4), x.count(0));
        due.is("the key put", x.key(x.count(0) - 1), 3);
        x.clear();
        due.is("put when all were cleared", x.put(3, 4), 1);
    }

    private static void keysRunOver() {
        Press up = new Press();
        due.is("run(4, MAX - 1, 1, 0)", up.run(4, MAX - 1, 1, 0), 4);
        due.row("run upward over MAX", up, "2147483646:0 2147483647:1 -2147483648:2 -2147483647:3");
        Press down = new Press();
        due.is("run(4, MIN + 1, -1, 0)", down.run(4, MIN + 1, -1, 0), 4);
        due.row("run downward over MIN", down, "-2147483647:0 -2147483648:1 2147483647:2 2147483646:3");
        Press byMin = new Press();
        due.is("run(3, 1, MIN, 0)", byMin.run(3, 1, MIN, 0), 3);
        due.row("run by MIN", byMin, "1:0 -2147483647:1 1:2");
        Press byMax = new Press();
        due.is("run(4, 5, MAX, 0)", byMax.run(4, 5, MAX, 0), 4);
        due.row("run by MAX", byMax, "5:0 -2147483644:1 3:2 -2147483646:3");
        Press byNone = new Press();
        due.is("run(2, MIN, 0, 0)", byNone.run(2, MIN, 0, 0), 2);
        due.row("run by 0", byNone, "-2147483648:0 -2147483648:1");
        Press long500 = new Press();
        long500.run(500, MAX, 987654321, 0);
        int key = MAX;
        for (int place = 0; place < 500; place++) {
            due.is("key(" + place + ") of a run of 500", long500.key(place), key);
            key += 987654321;
        }
    }

    private static void tagsRunOver() {
        Press x = new Press();
        due.is("run(3, 0, 5, MAX - 1)", x.run(3, 0, 5, MAX - 1), 3);
        due.row("run with tags over MAX", x, "0:2147483646 5:2147483647 10:-2147483648");
        Press y = new Press();
        due.is("run(3, 0, -5, -1)", y.run(3, 0, -5, -1), 3);
        due.row("run with tags over 0", y, "0:-1 -5:0 -10:1");
    }

    private static void runOfNoSuchNumber() {
        for (int size : Rows.SIZES) {
            Press x = Rows.mixed(size);
            for (int n : new int[] {0, -1, -size, -500, -501, MIN, MIN + 1, 501, 502, MAX, MAX - size, MAX - 499}) {
                due.nothing("run(" + n + ") with " + size, x, () -> x.run(n, 1, 1, 1), -1);
            }
        }
        due.is("run(1) with none", new Press().run(1, 1, 1, 1), 1);
        due.is("run(500) with none", new Press().run(500, 1, 1, 1), 500);
    }

    private static void runOfTooMany() {
        for (int size : new int[] {1, 2, 250, 498, 499, 500}) {
            Press x = Rows.mixed(size);
            for (int n : new int[] {501 - size, 502 - size, 499 + 500 - size, 500}) {
                if (n <= 500) {
                    due.nothing("run(" + n + ") with " + size, x, () -> x.run(n, 1, 1, 1), -1);
                }
            }
            if (size < 500) {
                due.is("run(" + (500 - size) + ") with " + size, x.run(500 - size, 1, 1, 1), 500);
                due.is("its first key", x.key(size), 1);
                due.is("its last key", x.key(499), 500 - size);
            }
        }
    }

    private static void refusedRunLeavesNoPart() {
        Press x = Rows.five();
        due.nothing("run(496) with 5", x, () -> x.run(496, 8, 8, 8), -1);
        due.nothing("run(0) with 5", x, () -> x.run(0, 8, 8, 8), -1);
        due.is("put behind refused runs", x.put(6, 6), 6);
        due.row("put behind refused runs", x, "3:0 1:1 2:2 1:3 3:4 6:6");
    }

    private static void clearTellsHowMany() {
        Press x = new Press();
        due.is("clear() of none", x.clear(), 0);
        due.is("clear() of none again", x.clear(), 0);
        for (int size : Rows.SIZES) {
            Press y = Rows.mixed(size);
            due.is("clear() of " + size, y.clear(), size);
            due.is("clear() after it", y.clear(), 0);
        }
        Press full = Rows.mixed(500);
        full.put(1, 1);
        full.run(1, 1, 1, 1);
        due.is("clear() of 500 after refused calls", full.clear(), 500);
        Press thinned = Rows.alike(9);
        thinned.thin(0);
        due.is("clear() of one left by thin", thinned.clear(), 1);
    }

    private static void clearLeavesNone() {
        for (int size : Rows.SIZES) {
            Press x = Rows.mixed(size);
            x.clear();
            due.row("clear of " + size, x, "");
            for (int place = 0; place < 500; place++) {
                due.is("key(" + place + ")", x.key(place), 0);
                due.is("tag(" + place + ")", x.tag(place), 0);
            }
            for (int what = 0; what < 3; what++) {
                due.is("count(" + what + ")", x.count(what), 0);
            }
            due.is("sorted(0, 1, 0)", x.sorted(0, 1, 0), -1);
            due.is("rank(0, 0)", x.rank(0, 0), -1);
            due.is("run(500)", x.run(500, 4, -1, 4), 500);
        }
    }

    private static void calls512() {
        Press x = new Press();
        for (int call = 1; call <= 500; call++) {
            x.put(-call, call);
        }
        due.is("call 501", x.sort(0), 1);
        for (int call = 502; call <= 511; call++) {
            due.is("call " + call, x.put(1, 1), -1);
        }
        due.is("call 512", x.key(0), -500);
    }
}
