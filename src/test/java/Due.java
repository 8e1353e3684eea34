/** Compares answers with those that are due, prints the wrong ones, and ends a test. */
final class Due {
    private int asked = 0;
    private int wrong = 0;

    void is(String call, long got, long want) {
        asked++;
        if (got != want) {
            tell(call + " answered " + got + ", due is " + want);
        }
    }

    void holds(String what, boolean holds) {
        asked++;
        if (!holds) {
            tell(what);
        }
    }

    /** The row is just these pairs, written key:tag with a space between them. */
    void row(String after, RowPress x, String want) {
        StringBuilder got = new StringBuilder();
        for (int place = 0; place < x.count(0); place++) {
            got.append(place == 0 ? "" : " ").append(x.key(place)).append(':').append(x.tag(place));
        }
        asked++;
        if (!got.toString().equals(want)) {
            tell("after " + after + " the row is [" + got + "], due is [" + want + "]");
        }
    }

    int wrong() {
        return wrong;
    }

    void end() {
        System.out.println(asked + " answers, " + wrong + " wrong");
        if (wrong != 0 || asked == 0) {
            System.exit(1);
        }
    }

    private void tell(String text) {
        wrong++;
        if (wrong <= 50) {
            System.out.println(text);
        }
    }
}
