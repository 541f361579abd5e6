import java.util.ArrayList;
import java.util.List;
import java.util.function.Consumer;

/**
 * A MarkupSieve as the tests use it: it counts the calls, since the document leaves free what an
 * object answers after 512 of them, and it can be made again by the same calls.
 */
final class Sieve {
    static final int MOST_CALLS = 512;

    private final MarkupSieve made = new MarkupSieve();
    private final List<Consumer<Sieve>> changes = new ArrayList<>();
    private int calls = 0;

    /** Another object after the same calls, but for those that only ask. */
    Sieve again() {
        Sieve other = new Sieve();
        for (Consumer<Sieve> change : changes) {
            change.accept(other);
        }
        return other;
    }

    int callsLeft() {
        return MOST_CALLS - calls;
    }

    boolean put(long characters) {
        return change(sieve -> sieve.put(characters)).put(characters);
    }

    void wipe() {
        change(Sieve::wipe).wipe();
    }

    boolean action(int letter, int what) {
        return change(sieve -> sieve.action(letter, what)).action(letter, what);
    }

    boolean attribute(int letter, int a, boolean may) {
        return change(sieve -> sieve.attribute(letter, a, may)).attribute(letter, a, may);
    }

    boolean scheme(long letters) {
        return change(sieve -> sieve.scheme(letters)).scheme(letters);
    }

    void reset() {
        change(Sieve::reset).reset();
    }

    int clean() {
        return change(Sieve::clean).clean();
    }

    long output(int k) {
        return ask().output(k);
    }

    int rounds() {
        return ask().rounds();
    }

    int nodes() {
        return ask().nodes();
    }

    int node(int i) {
        return ask().node(i);
    }

    long text(int i, int k) {
        return ask().text(i, k);
    }

    int length(int i, int a) {
        return ask().length(i, a);
    }

    long value(int i, int a, int k) {
        return ask().value(i, a, k);
    }

    private MarkupSieve change(Consumer<Sieve> change) {
        changes.add(change);
        return ask();
    }

    private MarkupSieve ask() {
        calls++;
        if (calls > MOST_CALLS) {
            throw new IllegalStateException("a test asks for more than the document promises");
        }
        return made;
    }
}
