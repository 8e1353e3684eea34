import java.util.function.IntSupplier;

/** Compares answers with those that are due, prints the wrong ones, and ends a test. */
final class Due {
    private int asked = 0;
    private int wrong = 0;
    private String sentence = "";

    void is(String call, long got, long want) {
        asked++;
        if (got != want) {
            tell(call + " answered " + got + ", due is " + want);
        }
    }

    void holds(String what, boolean holds) {
        asked++;
        if (!holds) {
            tell(what);
        }
    }

    /** The row is just these pairs, written key:tag with a space between them. */
    void row(String after, Press x, String want) {
        String got = Rows.text(x);
        asked++;
        if (!got.equals(want)) {
            tell("after " + after + " the row is [" + got + "], due is [" + want + "]");
        }
    }

    /** The call answers so, and does nothing: to no pair, and to nothing that check() judges by. */
    void nothing(String call, Press x, IntSupplier answer, int want) {
        String before = state(x);
        is(call, x.keeping(answer), want);
        holds(call + " did something", state(x).equals(before));
    }

    /** A sentence of the document with a test of its own: what is wrong in it is told by its words. */
    void sentence(String words, Runnable test) {
        sentence = words;
        int askedBefore = asked;
        try {
            test.run();
        } catch (RuntimeException thrown) {
            tell("a call threw " + thrown);
        }
        if (asked == askedBefore) {
            tell("nothing was asked");
        }
        sentence = "";
    }

    int wrong() {
        return wrong;
    }

    void end() {
        System.out.println(asked + " answers, " + wrong + " wrong");
        if (wrong != 0 || asked == 0) {
            System.exit(1);
        }
    }

    /** All that the face shows, a little behind both ends too, and the counts. */
    private static String state(Press x) {
        return Rows.text(x, -1, 502) + " " + x.count(0) + " " + x.count(1) + " " + x.check() + " "
            + Counts.pairs(x) + " " + Counts.compares(x) + " " + Counts.writes(x);
    }

    private void tell(String text) {
        wrong++;
        if (wrong <= 50) {
            System.out.println(sentence.isEmpty() ? text : "'" + sentence + "': " + text);
        }
    }
}
