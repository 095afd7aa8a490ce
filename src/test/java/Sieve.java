/**
 * A PacketSieve that is asked only as often as the document promises answers: a test that goes on after the 512th call
 * would ask for what is free.
 */
final class Sieve {
    static final int MOST_CALLS = 512;

    private final PacketSieve sieve;
    private int calls;

    Sieve(int snap) {
        sieve = new PacketSieve(snap);
    }

    int calls() {
        return calls;
    }

    /** An error, and no exception, so that no test can take it for an answer. */
    private PacketSieve asked() {
        calls++;
        if (calls > MOST_CALLS) {
            throw new AssertionError("a test asks an object more than " + MOST_CALLS + " times");
        }
        return sieve;
    }

    int type(long characters, int n) {
        return asked().type(characters, n);
    }

    int clear() {
        return asked().clear();
    }

    int compile() {
        return asked().compile();
    }

    int instruction(int k, int what) {
        return asked().instruction(k, what);
    }

    int put(long bytes, int n) {
        return asked().put(bytes, n);
    }

    int cut(int n) {
        return asked().cut(n);
    }

    int set(int place, int v) {
        return asked().set(place, v);
    }

    int holds() {
        return asked().holds();
    }

    int run() {
        return asked().run();
    }

    int state(int what) {
        return asked().state(what);
    }
}
