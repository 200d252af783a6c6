/** Edges of promises 20 to 24 and of the terms they stand on: who wins when the last one loses, and quotients. */
public final class LastLosesEdgesTest extends Cases {
    /** The classes of this table for size 3 begin with the sums none, 1, 2, 3, 1+2, 1+3, 2+2, 2+3, 1+2+2, 1+2+3. */
    private static final int[][] TEN_CLASSES = {{1, 0, 0}, {2, 0, 0}, {2, 1, 0}, {3, 0, 0}, {3, 1, 0}, {3, 2, 0},
        {3, 1, 2}};

    private LastLosesEdgesTest() {
        super("edges of last loses");
    }

    public static void main(String[] args) {
        LastLosesEdgesTest test = new LastLosesEdgesTest();
        test.whoWins();
        test.tooManyCounters();
        test.makingQuotients();
        test.classesAsDefined();
        test.classesOfSums();
        test.askingForClasses();
        test.counts();
        test.end();
    }

    private void whoWins() {
        holds("who moves wins, if there is no move", this::noMove);
        holds("who moves wins, if there is ... one after which who moves then does not", this::someMove);
        holds("lastLoses() with every kind", this::everyKind);
        holds("(lastLoses() asks for no table and changes nothing)", this::changesNothing);
        holds("(another rule, another winner)", this::otherRule);
        holds("(another sum, another winner)", this::otherSums);
    }

    private void noMove() {
        lastLosesIs(true);
        lastLosesIs(true, 16);
        lastLosesIs(true, alike(16, 1));
        desk.digit(1, 3);
        lastLosesIs(true);
        desk.kind(UNLIKE);
        lastLosesIs(true, alike(8, 2));
        desk.kind(SPLIT);
        lastLosesIs(true, alike(16, 1));
        desk.kind(TABLE);
        lastLosesIs(true, 16);
    }

    private void someMove() {
        // Taking one by one: who moves first makes the last move, if the counters are odd.
        code(3);
        lastLosesIs(false, 1);
        lastLosesIs(true, 2);
        lastLosesIs(true, 1, 1);
        lastLosesIs(false, 15);
        lastLosesIs(true, 16);
        lastLosesIs(false, alike(15, 1));
        lastLosesIs(true, alike(16, 1));
        // With none to be taken in the end a heap of 1 is no move, so that the last one is the one to 1.
        code(2);
        lastLosesIs(true, 1);
        lastLosesIs(false, 2);
        lastLosesIs(true, 3);
        lastLosesIs(false, 16);
    }

    private void everyKind() {
        // Three heaps: 4 to 1 + 1 + 1, which can't be moved.
        code(8);
        lastLosesIs(true, 3);
        lastLosesIs(false, 4);
        lastLosesIs(true, 4, 4);
        // The same with a heap of 1 to be taken: 4 moves of 4; of 5 to 1 + 1 + 2 three.
        code(9);
        lastLosesIs(true, 4);
        lastLosesIs(false, 5);
        // Nim of small heaps: who moves loses at 1 and at 2 + 2.
        subtraction(1, 2, 3);
        lastLosesIs(false, 1);
        lastLosesIs(true, 2);
        lastLosesIs(true, 3);
        lastLosesIs(false, 2, 2);
        lastLosesIs(false, 1, 2, 3);
        lastLosesIs(false, 5);
        lastLosesIs(false, 13);
        lastLosesIs(true, 16);
        rule(SPLIT);
        lastLosesIs(false, 2);
        lastLosesIs(true, 15);
        lastLosesIs(false, 16);
        lastLosesIs(true, 8, 8);
        rule(UNLIKE);
        lastLosesIs(false, 3);
        lastLosesIs(true, 3, 3);
        lastLosesIs(true, 4);
        table(new int[] {16, 8, 8}, new int[] {8, 0, 0});
        lastLosesIs(false, 16);
        lastLosesIs(false, 8);
        lastLosesIs(true, 8, 8);
    }

    private void changesNothing() {
        code(7);
        sum(3, 4);
        desk.play(1);
        desk.analyse(2);
        desk.quotient(1);
        desk.lastLoses();
        due("the sum", "1 4 1", () -> heapsOfSum());
        due("count(0)", 2, () -> desk.count(0));
        due("count(3)", 1, () -> desk.count(3));
        due("count(4)", 2, () -> desk.count(4));
    }

    private void otherRule() {
        code(3);
        lastLosesIs(false, 3);
        desk.digit(2, 3);
        due("lastLoses() of 3, behind digit(2, 3)", true, () -> desk.lastLoses());
        desk.kind(SUBTRACTION);
        due("lastLoses() of 3, behind kind(1)", true, () -> desk.lastLoses());
        desk.number(3, true);
        due("lastLoses() of 3, behind number(3, true)", false, () -> desk.lastLoses());
        desk.number(3, false);
        due("lastLoses() of 3, behind number(3, false)", true, () -> desk.lastLoses());
        desk.kind(TABLE);
        desk.entry(3, 1, 1, true);
        due("lastLoses() of 3, behind entry(3, 1, 1, true)", false, () -> desk.lastLoses());
        desk.entry(1, 0, 0, true);
        due("lastLoses() of 3, behind entry(1, 0, 0, true)", false, () -> desk.lastLoses());
        desk.entry(3, 1, 0, true);
        due("lastLoses() of 3, behind entry(3, 1, 0, true)", true, () -> desk.lastLoses());
    }

    private void otherSums() {
        rule(SPLIT);
        for (int round = 0; round < 2; round++) {
            lastLosesIs(false, 16);
            lastLosesIs(true);
            lastLosesIs(true, 1);
            lastLosesIs(true, 15, 1);
            lastLosesIs(false, 14, 1);
            lastLosesIs(true, 8, 8);
            lastLosesIs(false, 4, 4, 4);
            due("quotient(3)", 2, () -> desk.quotient(3));
        }
    }

    private void tooManyCounters() {
        holds("lastLoses(): when it has more than 16 counters: one heap", this::oneHeap);
        holds("lastLoses(): when it has more than 16 counters: several", this::severalHeaps);
    }

    private void oneHeap() {
        for (int kind : KINDS) {
            for (int place : new int[] {0, 15}) {
                rule(kind);
                desk.heap(place, 16);
                due("lastLoses() of 16 with kind " + kind, true, () -> desk.lastLoses() || true);
                desk.heap(place, 17);
                due("lastLoses() of 17 with kind " + kind, UNSUPPORTED, () -> desk.lastLoses());
                desk.heap(place, 2000);
                due("lastLoses() of 2000 with kind " + kind, UNSUPPORTED, () -> desk.lastLoses());
            }
        }
    }

    private void severalHeaps() {
        code(3);
        lastLosesIs(UNSUPPORTED, 16, 0, 0, 0, 0, 0, 0, 0, 0, 0, 0, 0, 0, 0, 0, 1);
        lastLosesIs(UNSUPPORTED, 1, 0, 0, 0, 0, 0, 0, 0, 0, 0, 0, 0, 0, 0, 0, 16);
        lastLosesIs(true, 1, 0, 0, 0, 0, 0, 0, 0, 0, 0, 0, 0, 0, 0, 0, 15);
        lastLosesIs(UNSUPPORTED, 2, 1, 1, 1, 1, 1, 1, 1, 1, 1, 1, 1, 1, 1, 1, 1);
        lastLosesIs(true, 2, 0, 1, 1, 1, 1, 1, 1, 1, 1, 1, 1, 1, 1, 1, 1);
        lastLosesIs(UNSUPPORTED, 8, 9);
        lastLosesIs(true, 8, 8);
        lastLosesIs(UNSUPPORTED, alike(16, 2000));
    }

    private void makingQuotients() {
        holds("Makes the quotient for a size: how many classes", this::howManyClasses);
        holds("quotient(): when it is not 1 .. 3: too small", () -> quotientRefused(0, -1, LEAST));
        holds("quotient(): when it is not 1 .. 3: too large", () -> quotientRefused(4, GREATEST));
        holds("(a refused size leaves the quotient)", this::quotientBehindRefused);
        holds("(another size, another quotient)", this::otherSize);
        holds("(quotient() asks for no sum and no table, and leaves them)", this::quotientKeepsTheRest);
    }

    private void quotientIs(int want, int size) {
        due("quotient(" + size + ")", want, () -> desk.quotient(size));
        due("count(4) behind quotient(" + size + ")", want, () -> desk.count(4));
    }

    private void howManyClasses() {
        quotientIs(1, 1);
        quotientIs(1, 2);
        quotientIs(1, 3);
        code(3);
        quotientIs(2, 1);
        quotientIs(2, 2);
        quotientIs(2, 3);
        subtraction(1, 2);
        quotientIs(2, 1);
        quotientIs(6, 2);
        quotientIs(6, 3);
        table(TEN_CLASSES);
        quotientIs(10, 3);
        quotientIs(6, 2);
        quotientIs(2, 1);
    }

    private void quotientRefused(int... sizes) {
        for (int size : sizes) {
            due("quotient(" + size + ")", ARGUMENT, () -> desk.quotient(size));
            due("count(4)", -1, () -> desk.count(4));
            due("classOf()", STATE, () -> desk.classOf());
        }
    }

    private void quotientBehindRefused() {
        subtraction(1, 2);
        sum(2, 1);
        desk.quotient(2);
        due("quotient(4)", ARGUMENT, () -> desk.quotient(4));
        due("quotient(0)", ARGUMENT, () -> desk.quotient(0));
        due("count(4)", 6, () -> desk.count(4));
        due("classOf()", 3, () -> desk.classOf());
        due("ofClass(5, 1)", 1, () -> desk.ofClass(5, 1));
    }

    private void otherSize() {
        subtraction(1, 2);
        sum(2);
        desk.quotient(3);
        due("classOf() for size 3", 2, () -> desk.classOf());
        desk.quotient(1);
        due("classOf() for size 1", UNSUPPORTED, () -> desk.classOf());
        due("ofClass(2, 0) for size 1", INDEX, () -> desk.ofClass(2, 0));
        due("ofClass(0, 1) for size 1", 3, () -> desk.ofClass(0, 1));
        desk.quotient(2);
        due("classOf() for size 2", 2, () -> desk.classOf());
        due("ofClass(2, 0) for size 2", 1, () -> desk.ofClass(2, 0));
        due("ofClass(0, 4) for size 2", -1, () -> desk.ofClass(0, 4));
    }

    private void quotientKeepsTheRest() {
        code(7);
        sum(2000, 3);
        desk.play(0);
        desk.analyse(7);
        due("quotient(3)", true, () -> desk.quotient(3) > 1);
        due("the sum", "1999 3", () -> heapsOfSum());
        due("count(0)", 7, () -> desk.count(0));
        due("count(3)", 1, () -> desk.count(3));
        due("undo()", 0, () -> desk.undo());
    }

    private void classesAsDefined() {
        holds("SUMS are those of up to four heaps of 1 to s counters", this::sumsOfSizes);
        holds("TESTS are those of up to two", this::testsOfTwoHeaps);
        holds("Two sums are of one CLASS, if ... the mover's fortune (last loses) is the same for both", this::oneClass);
        holds("Classes are numbered from 0, by their first sums", this::numbersOfClasses);
    }

    private void sumsOfSizes() {
        int[] sums = {0, 5, 15, 35};
        for (int i = 1; i <= 3; i++) {
            int size = i;
            desk.quotient(size);
            due("the only class for size " + size, sums[size], () -> desk.ofClass(0, 1));
        }
        table(TEN_CLASSES);
        for (int i = 1; i <= 3; i++) {
            int size = i;
            due("all classes for size " + size, sums[size], () -> sumsOfAllClasses(desk.quotient(size)));
        }
    }

    private int sumsOfAllClasses(int classes) {
        int all = 0;
        for (int c = 0; c < classes; c++) {
            all += desk.ofClass(c, 1);
        }
        return all;
    }

    private void testsOfTwoHeaps() {
        // By tests of one heap alone these would be 4 and 5.
        subtraction(1, 2);
        quotientIs(6, 2);
        table(TEN_CLASSES);
        quotientIs(10, 3);
    }

    private void oneClass() {
        // Taking one by one it is but the counters that count: even or odd.
        code(3);
        desk.quotient(3);
        classOfIs(0, 2);
        classOfIs(0, 1, 3);
        classOfIs(0, 3, 3, 3, 3);
        classOfIs(1, 3);
        classOfIs(1, 1, 2, 2, 2);
        due("even ones", 19, () -> desk.ofClass(0, 1));
        due("odd ones", 16, () -> desk.ofClass(1, 1));
    }

    private void numbersOfClasses() {
        table(TEN_CLASSES);
        desk.quotient(3);
        int[][] firsts = {{}, {1}, {2}, {3}, {1, 2}, {1, 3}, {2, 2}, {2, 3}, {1, 2, 2}, {1, 2, 3}};
        for (int c = 0; c < firsts.length; c++) {
            classOfIs(c, firsts[c]);
        }
    }

    private void classesOfSums() {
        holds("The class of the present sum (its heaps in any places)", this::anyPlaces);
        holds("classOf(): sums of four heaps", this::fourHeaps);
        holds("classOf(): when there is no quotient", this::classWithoutQuotient);
        holds("classOf(): when it is none of its sums: five heaps", this::fiveHeaps);
        holds("classOf(): when it is none of its sums: a heap above the size", this::heapAboveSize);
    }

    private void anyPlaces() {
        table(TEN_CLASSES);
        desk.quotient(3);
        classOfIs(0);
        classOfIs(9, 1, 2, 3);
        classOfIs(9, 3, 2, 1);
        classOfIs(9, 0, 0, 0, 3, 0, 0, 0, 0, 1, 0, 0, 0, 0, 0, 0, 2);
        sum(0, 0, 0, 3, 0, 0, 0, 0, 1, 0, 0, 0, 0, 0, 0, 2);
        desk.play(desk.moves() - 1);
        due("classOf() behind a move from 2 to none", 5, () -> desk.classOf());
        desk.undo();
        due("classOf() behind undo()", 9, () -> desk.classOf());
    }

    private void fourHeaps() {
        table(TEN_CLASSES);
        desk.quotient(3);
        classOfIs(0, 1, 1, 1, 1);
        classOfIs(5, 1, 2, 2, 3);
        classOfIs(6, 3, 3, 3, 3);
        classOfIs(7, 0, 3, 0, 2, 0, 3, 0, 3);
    }

    private void classWithoutQuotient() {
        due("classOf() of a new object", STATE, () -> desk.classOf());
        desk.heap(0, 2000);
        due("classOf() of 2000", STATE, () -> desk.classOf());
        desk.quotient(1);
        due("classOf() of 2000, with a quotient", UNSUPPORTED, () -> desk.classOf());
        desk.kind(SPLIT);
        due("classOf() of 2000, the quotient being gone", STATE, () -> desk.classOf());
    }

    private void fiveHeaps() {
        table(TEN_CLASSES);
        for (int size = 1; size <= 3; size++) {
            desk.quotient(size);
            classOfIs(UNSUPPORTED, 1, 1, 1, 1, 1);
            classOfIs(UNSUPPORTED, alike(16, size));
        }
    }

    private void heapAboveSize() {
        table(TEN_CLASSES);
        for (int size = 1; size <= 3; size++) {
            desk.quotient(size);
            classOfIs(size, size);
            classOfIs(UNSUPPORTED, size + 1);
            classOfIs(UNSUPPORTED, 1, 0, 0, 0, 0, 0, 0, 0, 0, 0, 0, 0, 0, 0, 0, size + 1);
            classOfIs(UNSUPPORTED, 2000);
        }
    }

    private void askingForClasses() {
        holds("whether who moves in its sums wins (what 0: 1 or 0)", () -> columnIs(0, 1, 0, 1, 1, 1, 1, 0, 1, 1, 1));
        holds("how many sums it has (1)", () -> columnIs(1, 3, 2, 4, 4, 4, 4, 7, 4, 2, 1));
        holds("with a heap of 1 ... added (2)", () -> columnIs(2, 1, 0, 4, 5, 2, 3, 8, 9, 6, 7));
        holds("with a heap of ... 2 ... added (3)", () -> columnIs(3, 2, 4, 6, 7, 8, 9, 2, 3, 4, 5));
        holds("with a heap of ... 3 counters added (4)", () -> columnIs(4, 3, 5, 7, 6, 9, 8, 3, 2, 5, 4));
        holds("NONE when that is none of the sums", this::addedHeapAboveSize);
        holds("ofClass(): when there is no quotient", this::ofClassWithoutQuotient);
        holds("ofClass(): when there is no such class", this::noSuchClass);
        holds("ofClass(): when there is no such ... what", this::noSuchWhat);
    }

    private void columnIs(int what, int... due) {
        table(TEN_CLASSES);
        desk.quotient(3);
        for (int i = 0; i < due.length; i++) {
            int c = i;
            due("ofClass(" + c + ", " + what + ")", due[c], () -> desk.ofClass(c, what));
        }
    }

    private void addedHeapAboveSize() {
        table(TEN_CLASSES);
        for (int size = 1; size <= 3; size++) {
            int classes = desk.quotient(size);
            for (int i = 0; i < 3 * classes; i++) {
                int c = i / 3;
                int added = 1 + i % 3;
                due("ofClass(" + c + ", " + (added + 1) + ") for size " + size, added > size,
                        () -> desk.ofClass(c, added + 1) == -1);
            }
        }
    }

    private void ofClassWithoutQuotient() {
        due("ofClass(0, 0) of a new object", STATE, () -> desk.ofClass(0, 0));
        desk.quotient(1);
        due("ofClass(0, 0) with a quotient", 1, () -> desk.ofClass(0, 0));
        desk.number(9, false);
        due("ofClass(0, 0), the quotient being gone", STATE, () -> desk.ofClass(0, 0));
    }

    private void noSuchClass() {
        table(TEN_CLASSES);
        int[] classes = {0, 2, 6, 10};
        for (int size = 1; size <= 3; size++) {
            desk.quotient(size);
            int last = classes[size] - 1;
            due("ofClass(" + last + ", 1) for size " + size, true, () -> desk.ofClass(last, 1) > 0);
            for (int c : new int[] {last + 1, 35, -1, LEAST, GREATEST}) {
                due("ofClass(" + c + ", 1) for size " + size, INDEX, () -> desk.ofClass(c, 1));
                due("ofClass(" + c + ", 2) for size " + size, INDEX, () -> desk.ofClass(c, 2));
            }
        }
    }

    private void noSuchWhat() {
        table(TEN_CLASSES);
        desk.quotient(3);
        for (int what : new int[] {-1, 5, 6, LEAST, GREATEST}) {
            due("ofClass(0, " + what + ")", INDEX, () -> desk.ofClass(0, what));
            due("ofClass(9, " + what + ")", INDEX, () -> desk.ofClass(9, what));
        }
    }

    private void counts() {
        holds("count(): classes (4; NONE without a quotient)", this::countOfClasses);
        holds("count(): NONE for another what", this::countOfOtherWhat);
    }

    private void countOfClasses() {
        due("count(4) of a new object", -1, () -> desk.count(4));
        desk.quotient(1);
        due("count(4) of no moves", 1, () -> desk.count(4));
        desk.kind(TABLE);
        due("count(4), the quotient being gone", -1, () -> desk.count(4));
        table(TEN_CLASSES);
        desk.quotient(3);
        due("count(4) of ten", 10, () -> desk.count(4));
    }

    private void countOfOtherWhat() {
        table(TEN_CLASSES);
        desk.quotient(3);
        desk.analyse(9);
        sum(3, 2);
        desk.play(0);
        for (int what : new int[] {-1, 5, 6, LEAST, GREATEST}) {
            due("count(" + what + ")", -1, () -> desk.count(what));
        }
    }
}
