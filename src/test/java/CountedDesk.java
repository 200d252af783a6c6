/** A desk that keeps the tests from asking for what is not promised: what a desk answers behind its 512th call. */
final class CountedDesk {
    static final int MOST_CALLS = 512;

    private final HeapDesk desk = new HeapDesk();
    private int calls;

    private HeapDesk next() {
        calls++;
        if (calls > MOST_CALLS) {
            throw new AssertionError("a test makes more calls than a desk is made for");
        }
        return desk;
    }

    int callsLeft() {
        return MOST_CALLS - calls;
    }

    int kind(int kind) {
        return next().kind(kind);
    }

    int digit(int place, int digit) {
        return next().digit(place, digit);
    }

    boolean number(int number, boolean is) {
        return next().number(number, is);
    }

    boolean entry(int from, int to, int other, boolean is) {
        return next().entry(from, to, other, is);
    }

    int analyse(int n) {
        return next().analyse(n);
    }

    int nimber(int heap) {
        return next().nimber(heap);
    }

    int frequency(int nimber) {
        return next().frequency(nimber);
    }

    int period(int what) {
        return next().period(what);
    }

    int options(int heap) {
        return next().options(heap);
    }

    int option(int heap, int k, int which) {
        return next().option(heap, k, which);
    }

    int heap(int place, int size) {
        return next().heap(place, size);
    }

    int at(int place) {
        return next().at(place);
    }

    int moves() {
        return next().moves();
    }

    int move(int move, int what) {
        return next().move(move, what);
    }

    int play(int move) {
        return next().play(move);
    }

    boolean wins(int move) {
        return next().wins(move);
    }

    int undo() {
        return next().undo();
    }

    int value() {
        return next().value();
    }

    boolean lastLoses() {
        return next().lastLoses();
    }

    int quotient(int size) {
        return next().quotient(size);
    }

    int classOf() {
        return next().classOf();
    }

    int ofClass(int c, int what) {
        return next().ofClass(c, what);
    }

    int count(int what) {
        return next().count(what);
    }
}
