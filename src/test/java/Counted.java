/** A SqueezeQueue whose calls are counted: answers behind the 512th are free, so no test may lean on one. */
final class Counted {
    static final int MOST_CALLS = 512;

    private final SqueezeQueue real = new SqueezeQueue();
    private int calls = 0;

    int calls() {
        return calls;
    }

    int put(int value) {
        count();
        return real.put(value);
    }

    int repeat(int distance, int count) {
        count();
        return real.repeat(distance, count);
    }

    void erase() {
        count();
        real.erase();
    }

    int send() {
        count();
        return real.send();
    }

    int receive() {
        count();
        return real.receive();
    }

    int at(int place) {
        count();
        return real.at(place);
    }

    int length() {
        count();
        return real.length();
    }

    int blocks() {
        count();
        return real.blocks();
    }

    int find(int value, int from) {
        count();
        return real.find(value, from);
    }

    void edit() {
        count();
        real.edit();
    }

    private void count() {
        calls++;
        Check.that("the test itself keeps to " + MOST_CALLS + " calls", calls <= MOST_CALLS);
    }
}
