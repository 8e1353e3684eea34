import java.util.ArrayList;
import java.util.List;
import java.util.function.Consumer;
import java.util.function.IntSupplier;
import java.util.function.ToIntFunction;

/**
 * A RowPress as the tests use it. What an object answers after its 512th call is free, so no test may
 * rest on it; but to read a row of 500 takes 1000 calls. So when an object's calls are used up, a new
 * one is given the same calls again, without those that only read, and answers in its place.
 */
final class Press {
    static final int MOST_CALLS = 512;

    private final List<Consumer<RowPress>> again = new ArrayList<>();
    private int callsAgain = 0;
    private RowPress object = new RowPress();
    private int used = 0;
    private boolean asksAreKept = false;

    int put(int key, int tag) {
        return kept(x -> x.put(key, tag));
    }

    int run(int n, int key, int step, int tag) {
        return kept(x -> x.run(n, key, step, tag));
    }

    int clear() {
        return kept(RowPress::clear);
    }

    int sort(int order) {
        return kept(x -> x.sort(order));
    }

    int sortPart(int from, int to, int order) {
        return kept(x -> x.sortPart(from, to, order));
    }

    int merge(int from, int mid, int to, int order) {
        return kept(x -> x.merge(from, mid, to, order));
    }

    int rotate(int from, int mid, int to) {
        return kept(x -> x.rotate(from, mid, to));
    }

    int turn(int from, int to) {
        return kept(x -> x.turn(from, to));
    }

    int split(int from, int to, int key, int order) {
        return kept(x -> x.split(from, to, key, order));
    }

    int thin(int order) {
        return kept(x -> x.thin(order));
    }

    int sorted(int from, int to, int order) {
        return asked(x -> x.sorted(from, to, order));
    }

    int find(int key, int order, int equal) {
        return asked(x -> x.find(key, order, equal));
    }

    int rank(int place, int order) {
        return asked(x -> x.rank(place, order));
    }

    int key(int place) {
        return asked(x -> x.key(place));
    }

    int tag(int place) {
        return asked(x -> x.tag(place));
    }

    int count(int what) {
        return asked(x -> x.count(what));
    }

    int check() {
        return asked(RowPress::check);
    }

    /** Runs a call that must leave no trace: if it leaves one, a new object has to show it too. */
    int keeping(IntSupplier call) {
        asksAreKept = true;
        int answer = call.getAsInt();
        asksAreKept = false;
        return answer;
    }

    /** What no call of the face could do. */
    void meddle(Consumer<RowPress> with) {
        with.accept(object);
        again.add(with);
    }

    RowPress object() {
        return object;
    }

    /** How many calls the object has had. */
    int used() {
        return used;
    }

    private int asked(ToIntFunction<RowPress> ask) {
        return asksAreKept ? kept(ask) : called(ask);
    }

    private int kept(ToIntFunction<RowPress> call) {
        int answer = called(call);
        again.add(call::applyAsInt);
        callsAgain++;
        return answer;
    }

    private int called(ToIntFunction<RowPress> call) {
        if (used >= MOST_CALLS) {
            startAgain();
        }
        used++;
        return call.applyAsInt(object);
    }

    private void startAgain() {
        if (callsAgain >= MOST_CALLS) {
            throw new IllegalStateException("this test rests on more than 512 calls of one object");
        }
        object = new RowPress();
        for (Consumer<RowPress> call : again) {
            call.accept(object);
        }
        used = callsAgain;
    }
}
