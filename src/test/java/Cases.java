import java.util.Arrays;

/** What tests of single sentences share: a desk, ways to tell it rules and sums, and texts of what it answers. */
abstract class Cases {
    static final Class<?> ARGUMENT = IllegalArgumentException.class;
    static final Class<?> INDEX = IndexOutOfBoundsException.class;
    static final Class<?> STATE = IllegalStateException.class;
    static final Class<?> UNSUPPORTED = UnsupportedOperationException.class;

    static final int CODE = 0;
    static final int SUBTRACTION = 1;
    static final int SPLIT = 2;
    static final int UNLIKE = 3;
    static final int TABLE = 4;
    static final int[] KINDS = {CODE, SUBTRACTION, SPLIT, UNLIKE, TABLE};

    static final int LEAST = Integer.MIN_VALUE;
    static final int GREATEST = Integer.MAX_VALUE;

    CountedDesk desk = new CountedDesk();
    private final Check check;
    private String sentence = "";

    Cases(String about) {
        check = new Check(about);
    }

    /** A test of one sentence of the document; it begins with a new desk. */
    void holds(String words, Runnable test) {
        sentence = "\"" + words + "\": ";
        desk = new CountedDesk();
        try {
            test.run();
        } catch (RuntimeException e) {
            check.due(sentence + "what the test has to do first", "no exception", e.toString());
        }
        sentence = "";
    }

    void due(String what, Object want, Check.Call call) {
        check.due(sentence + what, want, call);
    }

    void end() {
        check.end();
    }

    void code(int... digits) {
        desk = new CountedDesk();
        for (int place = 1; place <= digits.length; place++) {
            desk.digit(place, digits[place - 1]);
        }
    }

    /** A code with one digit above 0. */
    void codeAt(int place, int digit) {
        desk = new CountedDesk();
        desk.digit(place, digit);
    }

    void subtraction(int... numbers) {
        rule(SUBTRACTION);
        for (int number : numbers) {
            desk.number(number, true);
        }
    }

    /** Each entry as from, to, other. */
    void table(int[]... entries) {
        rule(TABLE);
        for (int[] entry : entries) {
            desk.entry(entry[0], entry[1], entry[2], true);
        }
    }

    void rule(int kind) {
        desk = new CountedDesk();
        desk.kind(kind);
    }

    void sum(int... heaps) {
        for (int place = 0; place < 16; place++) {
            desk.heap(place, place < heaps.length ? heaps[place] : 0);
        }
    }

    static int[] alike(int howMany, int size) {
        int[] heaps = new int[howMany];
        Arrays.fill(heaps, size);
        return heaps;
    }

    /** The heaps by their places, without the empty places at the end. */
    String heapsOfSum() {
        StringBuilder all = new StringBuilder();
        for (int place = 0; place < 16; place++) {
            all.append(desk.at(place)).append(' ');
        }
        return all.toString().replaceAll("( 0)* $", "");
    }

    String nimbersUpTo(int n) {
        desk.analyse(n);
        StringBuilder all = new StringBuilder();
        for (int heap = 0; heap <= n; heap++) {
            all.append(desk.nimber(heap)).append(' ');
        }
        return all.toString().trim();
    }

    String optionsOf(int heap) {
        StringBuilder all = new StringBuilder();
        int options = desk.options(heap);
        for (int k = 0; k < options; k++) {
            all.append(optionAt(heap, k)).append(' ');
        }
        return all.toString().trim();
    }

    String optionAt(int heap, int k) {
        return desk.option(heap, k, 0) + "+" + desk.option(heap, k, 1) + "+" + desk.option(heap, k, 2);
    }

    String moveAt(int move) {
        return desk.move(move, 0) + ":" + desk.move(move, 1) + "+" + desk.move(move, 2) + "+" + desk.move(move, 3);
    }

    void periodIs(String what, int period, int preperiod) {
        due("period(0) " + what, period, () -> desk.period(0));
        due("period(1) " + what, preperiod, () -> desk.period(1));
    }

    void lastLosesIs(Object want, int... heaps) {
        sum(heaps);
        due("lastLoses() of " + Arrays.toString(heaps), want, () -> desk.lastLoses());
    }

    void classOfIs(Object want, int... heaps) {
        sum(heaps);
        due("classOf() of " + Arrays.toString(heaps), want, () -> desk.classOf());
    }

    void isGoneBehind(String what, Object want, Check.Call call) {
        desk.analyse(5);
        desk.quotient(1);
        due(what, want, call);
        tableIsGone(what);
        quotientIsGone(what);
    }

    void tableIsGone(String what) {
        due("the table's end behind " + what, 0, () -> desk.count(0));
        due("the greatest nimber behind " + what, 0, () -> desk.count(1));
        due("nimber(0) behind " + what, 0, () -> desk.nimber(0));
        due("nimber(1) behind " + what, INDEX, () -> desk.nimber(1));
    }

    void quotientIsGone(String what) {
        due("the classes behind " + what, -1, () -> desk.count(4));
        due("classOf() behind " + what, STATE, () -> desk.classOf());
        due("ofClass(0, 0) behind " + what, STATE, () -> desk.ofClass(0, 0));
    }

    void keepsWhenRefused(String what, Class<?> want, Check.Call call) {
        desk.analyse(5);
        desk.quotient(1);
        due(what, want, call);
        due("the table behind " + what, 5, () -> desk.count(0));
        due("the quotient behind " + what, true, () -> desk.count(4) > 0);
    }
}
