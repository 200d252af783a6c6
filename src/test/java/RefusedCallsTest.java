/** Calls that throw: which exception comes first when several are due, and that all stays as it was behind them. */
public final class RefusedCallsTest extends Cases {
    private RefusedCallsTest() {
        super("refused calls");
    }

    public static void main(String[] args) {
        RefusedCallsTest test = new RefusedCallsTest();
        test.firstOneTold();
        test.ofRules();
        test.ofTable();
        test.ofSum();
        test.ofClasses();
        test.end();
    }

    private void firstOneTold() {
        holds("Of several exceptions the first one told is thrown: digit()", this::orderOfDigit);
        holds("Of several exceptions the first one told is thrown: option()", this::orderOfOption);
        holds("Of several exceptions the first one told is thrown: heap()", this::orderOfHeap);
        holds("Of several exceptions the first one told is thrown: move()", this::orderOfMove);
        holds("Of several exceptions the first one told is thrown: play()", this::orderOfPlay);
        holds("Of several exceptions the first one told is thrown: wins()", this::orderOfWins);
        holds("Of several exceptions the first one told is thrown: classOf()", this::orderOfClassOf);
        holds("Of several exceptions the first one told is thrown: ofClass()", this::orderOfOfClass);
    }

    private void orderOfDigit() {
        due("digit(0, 16)", INDEX, () -> desk.digit(0, 16));
        due("digit(0, -1)", INDEX, () -> desk.digit(0, -1));
        due("digit(13, 16)", INDEX, () -> desk.digit(13, 16));
        due("digit(13, -1)", INDEX, () -> desk.digit(13, -1));
    }

    private void orderOfOption() {
        code(3);
        due("option(-1, 0, 3)", ARGUMENT, () -> desk.option(-1, 0, 3));
        due("option(2001, -1, 0)", ARGUMENT, () -> desk.option(2001, -1, 0));
        due("option(2001, 99, -1)", ARGUMENT, () -> desk.option(2001, 99, -1));
        desk.digit(2, 8);
        due("option(61, 9999, 3)", ARGUMENT, () -> desk.option(61, 9999, 3));
    }

    private void orderOfHeap() {
        due("heap(-1, -1)", INDEX, () -> desk.heap(-1, -1));
        due("heap(-1, 2001)", INDEX, () -> desk.heap(-1, 2001));
        due("heap(16, -1)", INDEX, () -> desk.heap(16, -1));
        due("heap(16, 2001)", INDEX, () -> desk.heap(16, 2001));
    }

    private void orderOfMove() {
        codeAt(1, 8);
        desk.heap(0, 61);
        due("move(-1, 0)", UNSUPPORTED, () -> desk.move(-1, 0));
        due("move(9999, 0)", UNSUPPORTED, () -> desk.move(9999, 0));
        due("move(0, 4)", UNSUPPORTED, () -> desk.move(0, 4));
        due("move(0, -1)", UNSUPPORTED, () -> desk.move(0, -1));
    }

    private void orderOfPlay() {
        codeAt(1, 8);
        sum(alike(16, 61));
        due("play(-1)", UNSUPPORTED, () -> desk.play(-1));
        due("play(9999)", UNSUPPORTED, () -> desk.play(9999));
        due("play(0) without room", UNSUPPORTED, () -> desk.play(0));
        code(4);
        sum(alike(16, 3));
        due("play(16), all moves being without room", INDEX, () -> desk.play(16));
        due("play(-1), all moves being without room", INDEX, () -> desk.play(-1));
        due("play(15), all moves being without room", STATE, () -> desk.play(15));
    }

    private void orderOfWins() {
        codeAt(1, 8);
        desk.heap(0, 61);
        due("wins(-1)", UNSUPPORTED, () -> desk.wins(-1));
        due("wins(0) without a table", UNSUPPORTED, () -> desk.wins(0));
        code(3);
        desk.heap(0, 9);
        due("wins(1) without a table", INDEX, () -> desk.wins(1));
        due("wins(-1) without a table", INDEX, () -> desk.wins(-1));
        due("wins(0) without a table", STATE, () -> desk.wins(0));
    }

    private void orderOfClassOf() {
        desk.heap(0, 4);
        due("classOf() of 4 without a quotient", STATE, () -> desk.classOf());
        sum(1, 1, 1, 1, 1);
        due("classOf() of five heaps without a quotient", STATE, () -> desk.classOf());
    }

    private void orderOfOfClass() {
        due("ofClass(-1, 0) without a quotient", STATE, () -> desk.ofClass(-1, 0));
        due("ofClass(0, 5) without a quotient", STATE, () -> desk.ofClass(0, 5));
        due("ofClass(99, -1) without a quotient", STATE, () -> desk.ofClass(99, -1));
    }

    /** Every rule is told something, a table and a quotient are there, and two moves were played. */
    private void fill(int kind) {
        rule(kind);
        desk.digit(1, 7);
        desk.digit(2, 3);
        for (int number : new int[] {1, 2, 64}) {
            desk.number(number, true);
        }
        for (int[] entry : new int[][] {{1, 0, 0}, {3, 1, 2}, {3, 2, 0}, {4, 3, 0}, {4, 2, 1}, {64, 32, 32}}) {
            desk.entry(entry[0], entry[1], entry[2], true);
        }
        desk.heap(2, 4);
        desk.heap(9, 4);
        desk.play(0);
        desk.play(0);
        desk.analyse(6);
        desk.quotient(3);
    }

    private String state() {
        StringBuilder all = new StringBuilder();
        for (int i = 0; i < 6; i++) {
            int what = i;
            add(all, () -> desk.count(what));
            add(all, () -> desk.nimber(what));
            add(all, () -> desk.frequency(what));
            add(all, () -> optionsOf(what));
            add(all, () -> desk.ofClass(what, 1));
        }
        add(all, this::heapsOfSum);
        add(all, () -> desk.period(0));
        add(all, () -> desk.period(1));
        add(all, () -> desk.options(64));
        add(all, () -> desk.moves());
        add(all, () -> moveAt(0));
        add(all, () -> desk.value());
        add(all, () -> desk.lastLoses());
        add(all, () -> desk.classOf());
        return all.toString();
    }

    private static void add(StringBuilder all, Check.Call call) {
        all.append(Check.outcome(call)).append(", ");
    }

    private void changesNothing(String what, Class<?> want, Check.Call call) {
        String before = state();
        due(what, want, call);
        due("all behind " + what, before, this::state);
    }

    private void twoMovesAreLeft(String first, String second) {
        due("undo()", 1, () -> desk.undo());
        due("the sum behind undo()", second, this::heapsOfSum);
        due("undo() again", 0, () -> desk.undo());
        due("the sum behind both", first, this::heapsOfSum);
    }

    private void ofRules() {
        for (int kind : KINDS) {
            holds("(a refused call changes nothing: kind " + kind + ", kind() and digit())", () -> {
                fill(kind);
                changesNothing("kind(5)", ARGUMENT, () -> desk.kind(5));
                fill(kind);
                changesNothing("digit(13, 7)", INDEX, () -> desk.digit(13, 7));
                fill(kind);
                changesNothing("digit(1, 16)", ARGUMENT, () -> desk.digit(1, 16));
            });
            holds("(a refused call changes nothing: kind " + kind + ", number() and entry())", () -> {
                fill(kind);
                changesNothing("number(65, true)", ARGUMENT, () -> desk.number(65, true));
                fill(kind);
                changesNothing("number(0, true)", ARGUMENT, () -> desk.number(0, true));
                fill(kind);
                changesNothing("entry(4, 4, 0, true)", ARGUMENT, () -> desk.entry(4, 4, 0, true));
                fill(kind);
                changesNothing("entry(4, 3, 2, true)", ARGUMENT, () -> desk.entry(4, 3, 2, true));
            });
        }
    }

    private void ofTable() {
        for (int kind : KINDS) {
            holds("(a refused call changes nothing: kind " + kind + ", analyse() and the asking calls)", () -> {
                fill(kind);
                changesNothing("analyse(2001)", ARGUMENT, () -> desk.analyse(2001));
                fill(kind);
                changesNothing("analyse(-1)", ARGUMENT, () -> desk.analyse(-1));
                fill(kind);
                changesNothing("nimber(7)", INDEX, () -> desk.nimber(7));
                fill(kind);
                changesNothing("period(2)", INDEX, () -> desk.period(2));
                fill(kind);
                changesNothing("options(2001)", ARGUMENT, () -> desk.options(2001));
                fill(kind);
                changesNothing("option(4, 99, 0)", INDEX, () -> desk.option(4, 99, 0));
            });
        }
        holds("(a refused call changes nothing: analyse(201) with an 8)", () -> {
            fill(CODE);
            desk.digit(5, 8);
            desk.analyse(6);
            changesNothing("analyse(201)", ARGUMENT, () -> desk.analyse(201));
        });
    }

    private void ofSum() {
        holds("(a refused call changes nothing: heap(), at(), move(), play(), wins())", () -> {
            fill(CODE);
            changesNothing("heap(16, 1)", INDEX, () -> desk.heap(16, 1));
            twoMovesAreLeft("0 0 4 0 0 0 0 0 0 4", "0 0 3 0 0 0 0 0 0 4");
            fill(CODE);
            changesNothing("heap(0, 2001)", ARGUMENT, () -> desk.heap(0, 2001));
            twoMovesAreLeft("0 0 4 0 0 0 0 0 0 4", "0 0 3 0 0 0 0 0 0 4");
            fill(CODE);
            changesNothing("at(16)", INDEX, () -> desk.at(16));
            fill(CODE);
            changesNothing("move(0, 4)", INDEX, () -> desk.move(0, 4));
            fill(CODE);
            changesNothing("play(99)", INDEX, () -> desk.play(99));
            twoMovesAreLeft("0 0 4 0 0 0 0 0 0 4", "0 0 3 0 0 0 0 0 0 4");
            fill(CODE);
            changesNothing("wins(99)", INDEX, () -> desk.wins(99));
        });
        holds("(a refused call changes nothing: a sum with a heap that options() does not take)", () -> {
            fill(CODE);
            desk.digit(2, 8);
            desk.heap(15, 61);
            changesNothing("moves()", UNSUPPORTED, () -> desk.moves());
            changesNothing("play(0)", UNSUPPORTED, () -> desk.play(0));
        });
        holds("(a refused call changes nothing: without room, without a table, without moves)", () -> {
            code(7);
            sum(alike(16, 3));
            desk.play(0);
            changesNothing("play(2), without room", STATE, () -> desk.play(2));
            due("undo()", 0, () -> desk.undo());
            due("the sum", "3 3 3 3 3 3 3 3 3 3 3 3 3 3 3 3", this::heapsOfSum);
            changesNothing("undo()", STATE, () -> desk.undo());
            code(3);
            sum(3);
            changesNothing("wins(0)", STATE, () -> desk.wins(0));
            changesNothing("value()", STATE, () -> desk.value());
        });
    }

    private void ofClasses() {
        holds("(a refused call changes nothing: lastLoses() and quotients)", () -> {
            fill(CODE);
            changesNothing("quotient(4)", ARGUMENT, () -> desk.quotient(4));
            fill(CODE);
            changesNothing("quotient(0)", ARGUMENT, () -> desk.quotient(0));
            fill(CODE);
            changesNothing("ofClass(99, 0)", INDEX, () -> desk.ofClass(99, 0));
            fill(CODE);
            desk.heap(3, 17);
            changesNothing("lastLoses()", UNSUPPORTED, () -> desk.lastLoses());
            changesNothing("classOf()", UNSUPPORTED, () -> desk.classOf());
        });
    }
}
