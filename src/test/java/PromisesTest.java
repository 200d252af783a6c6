/** The promises one by one: ordinary answers, the edges that the document names, and wrong arguments. */
public final class PromisesTest extends Cases {
    private PromisesTest() {
        super("promises");
    }

    public static void main(String[] args) {
        PromisesTest test = new PromisesTest();
        test.newObject();
        test.kind();
        test.digit();
        test.number();
        test.entry();
        test.analyse();
        test.nimber();
        test.frequency();
        test.periodOfCode();
        test.periodOfSubtraction();
        test.periodOfOthers();
        test.options();
        test.optionOfCode();
        test.optionOfOtherRules();
        test.heapAndAt();
        test.moves();
        test.move();
        test.play();
        test.playWithoutRoom();
        test.wins();
        test.undo();
        test.value();
        test.lastLoses();
        test.quotient();
        test.classOf();
        test.ofClass();
        test.count();
        test.end();
    }

    private void newObject() {
        due("NONE", -1, () -> HeapDesk.NONE);
        for (int i = 1; i <= 12; i++) {
            int place = i;
            desk = new CountedDesk();
            due("a new object's digit at " + place, 0, () -> desk.digit(place, 1));
        }
        desk = new CountedDesk();
        due("a new object's kind", CODE, () -> desk.kind(TABLE));
        for (int i = 1; i <= 64; i++) {
            int number = i;
            due("a new object's number " + number, false, () -> desk.number(number, false));
            due("a new object's options of " + number, 0, () -> desk.options(number));
        }
        desk = new CountedDesk();
        int[] counts = {0, 0, 0, 0, -1};
        for (int i = 0; i < counts.length; i++) {
            int what = i;
            due("a new object's count(" + what + ")", counts[what], () -> desk.count(what));
        }
        due("a new object's heaps", "0", () -> heapsOfSum());
        due("a new object's nimber(0)", 0, () -> desk.nimber(0));
        due("a new object's nimber(1)", INDEX, () -> desk.nimber(1));
        due("a new object's classOf()", STATE, () -> desk.classOf());
        due("a new object's value()", 0, () -> desk.value());
        due("a new object's moves()", 0, () -> desk.moves());
        due("a new object's lastLoses()", true, () -> desk.lastLoses());
        due("a new object's undo()", STATE, () -> desk.undo());
    }

    private void kind() {
        code(7, 7);
        desk.number(3, true);
        desk.entry(4, 1, 2, true);
        sum(5);
        desk.play(0);
        keepsWhenRefused("kind(-1)", ARGUMENT, () -> desk.kind(-1));
        keepsWhenRefused("kind(5)", ARGUMENT, () -> desk.kind(5));
        isGoneBehind("kind(0)", CODE, () -> desk.kind(CODE));
        isGoneBehind("kind(1)", CODE, () -> desk.kind(SUBTRACTION));
        isGoneBehind("kind(2)", SUBTRACTION, () -> desk.kind(SPLIT));
        isGoneBehind("kind(3)", SPLIT, () -> desk.kind(UNLIKE));
        isGoneBehind("kind(4)", UNLIKE, () -> desk.kind(TABLE));
        due("entries stay", "1+2+0", () -> optionsOf(4));
        desk.kind(SUBTRACTION);
        due("numbers stay", "1+0+0", () -> optionsOf(4));
        desk.kind(CODE);
        due("digits stay", "2+0+0 1+1+0 1+0+0", () -> optionsOf(3));
        due("played moves stay", 1, () -> desk.count(3));
        due("the sum stays", "4", () -> heapsOfSum());
    }

    private void digit() {
        desk = new CountedDesk();
        isGoneBehind("digit(1, 3)", 0, () -> desk.digit(1, 3));
        isGoneBehind("digit(1, 15)", 3, () -> desk.digit(1, 15));
        isGoneBehind("digit(1, 0)", 15, () -> desk.digit(1, 0));
        isGoneBehind("digit(12, 7)", 0, () -> desk.digit(12, 7));
        isGoneBehind("digit(12, 7) again", 7, () -> desk.digit(12, 7));
        desk.kind(SPLIT);
        isGoneBehind("digit(12, 2) with SPLIT", 7, () -> desk.digit(12, 2));
        keepsWhenRefused("digit(0, 1)", INDEX, () -> desk.digit(0, 1));
        keepsWhenRefused("digit(13, 1)", INDEX, () -> desk.digit(13, 1));
        keepsWhenRefused("digit(13, 16)", INDEX, () -> desk.digit(13, 16));
        keepsWhenRefused("digit(1, 16)", ARGUMENT, () -> desk.digit(1, 16));
        keepsWhenRefused("digit(1, -1)", ARGUMENT, () -> desk.digit(1, -1));
        due("digit(1, 1)", 0, () -> desk.digit(1, 1));
    }

    private void number() {
        rule(SUBTRACTION);
        isGoneBehind("number(64, true)", false, () -> desk.number(64, true));
        isGoneBehind("number(64, true) again", true, () -> desk.number(64, true));
        isGoneBehind("number(64, false)", true, () -> desk.number(64, false));
        isGoneBehind("number(64, false) again", false, () -> desk.number(64, false));
        isGoneBehind("number(1, true)", false, () -> desk.number(1, true));
        keepsWhenRefused("number(0, true)", ARGUMENT, () -> desk.number(0, true));
        keepsWhenRefused("number(65, false)", ARGUMENT, () -> desk.number(65, false));
        due("options of 64", "63+0+0", () -> optionsOf(64));
    }

    private void entry() {
        rule(TABLE);
        isGoneBehind("entry(5, 1, 3, true)", false, () -> desk.entry(5, 1, 3, true));
        isGoneBehind("entry(5, 3, 1, true)", true, () -> desk.entry(5, 3, 1, true));
        isGoneBehind("entry(5, 3, 1, false)", true, () -> desk.entry(5, 3, 1, false));
        isGoneBehind("entry(5, 1, 3, false)", false, () -> desk.entry(5, 1, 3, false));
        isGoneBehind("entry(64, 63, 1, true)", false, () -> desk.entry(64, 63, 1, true));
        isGoneBehind("entry(64, 32, 32, true)", false, () -> desk.entry(64, 32, 32, true));
        isGoneBehind("entry(64, 0, 63, true)", false, () -> desk.entry(64, 0, 63, true));
        isGoneBehind("entry(1, 0, 0, true)", false, () -> desk.entry(1, 0, 0, true));
        due("entry(64, 63, 0, true)", true, () -> desk.entry(64, 63, 0, true));
        int[][] refused = {{0, 0, 0}, {65, 1, 1}, {5, 5, 0}, {5, 0, 5}, {5, -1, 2}, {5, 2, -1}, {5, 3, 3}, {1, 1, 0},
            {64, Integer.MAX_VALUE, Integer.MAX_VALUE}, {Integer.MIN_VALUE, 0, 0}};
        for (int[] one : refused) {
            keepsWhenRefused("entry(" + one[0] + ", " + one[1] + ", " + one[2] + ")", ARGUMENT,
                    () -> desk.entry(one[0], one[1], one[2], true));
        }
        due("options of 64", "1+63+0 32+32+0 63+0+0", () -> optionsOf(64));
        due("options of 1", "0+0+0", () -> optionsOf(1));
        due("options of 65", 0, () -> desk.options(65));
    }

    private void analyse() {
        code(7, 7);
        due("Kayles", "0 1 2 3 1 4 3 2 1 4 2 6 4 1 2 7 1 4 3 2 1", () -> nimbersUpTo(20));
        due("analyse(11)", 6, () -> desk.analyse(11));
        due("analyse(10)", 4, () -> desk.analyse(10));
        due("the smaller table's end", 10, () -> desk.count(0));
        due("nimber(11) of the smaller table", INDEX, () -> desk.nimber(11));
        due("analyse(40)", 8, () -> desk.analyse(40));
        due("the greater table's end", 40, () -> desk.count(0));
        due("analyse(0)", 0, () -> desk.analyse(0));
        due("analyse(2000)", 8, () -> desk.analyse(2000));
        due("analyse(2001)", ARGUMENT, () -> desk.analyse(2001));
        due("analyse(-1)", ARGUMENT, () -> desk.analyse(-1));
        due("the table behind refused calls", 2000, () -> desk.count(0));
        analyseWithEight();
        rule(UNLIKE);
        due("Grundy's game", "0 0 0 1 0 2 1 0 2 1 0 2 1 3 2 1 3 2 4 3 0", () -> nimbersUpTo(20));
        rule(SPLIT);
        due("SPLIT", "0 0 1 0 1 0 1 0", () -> nimbersUpTo(7));
        subtraction(1, 3, 4);
        due("SUBTRACTION", "0 1 0 1 2 3 2 0 1 0 1 2 3 2", () -> nimbersUpTo(13));
        rule(TABLE);
        desk.entry(1, 0, 0, true);
        desk.entry(2, 1, 0, true);
        desk.entry(2, 0, 0, true);
        desk.entry(4, 2, 1, true);
        desk.entry(4, 0, 0, true);
        desk.entry(4, 2, 2, true);
        desk.entry(4, 1, 0, true);
        due("TABLE", "0 1 2 0 2 0", () -> nimbersUpTo(5));
        due("TABLE up to 2000", 2, () -> desk.analyse(2000));
        due("TABLE above 64", 0, () -> desk.nimber(2000));
        analyseAtTheEdges();
    }

    private void analyseAtTheEdges() {
        code(0, 0, 0, 0, 0, 0, 0, 0, 0, 0, 0, 1);
        due("the last place of a code", "0 0 0 0 0 0 0 0 0 0 0 0 1 0", () -> nimbersUpTo(13));
        subtraction(64);
        desk.analyse(64);
        due("the greatest number", 1, () -> desk.nimber(64));
        rule(TABLE);
        desk.entry(64, 32, 32, true);
        desk.entry(64, 0, 63, true);
        desk.entry(63, 0, 0, true);
        desk.entry(2, 1, 1, true);
        desk.entry(3, 1, 2, true);
        desk.analyse(65);
        due("entries of the greatest heap", 2, () -> desk.nimber(64));
        due("an entry of two alike", 1, () -> desk.nimber(2));
        due("an entry of two unlike", 0, () -> desk.nimber(3));
        code(9);
        due("the exclusive or of three", "0 1 0 0 0 1 2 2 2 3 4", () -> nimbersUpTo(10));
    }

    private void analyseWithEight() {
        code(0, 8);
        due("analyse(201) with 8", ARGUMENT, () -> desk.analyse(201));
        due("three heaps alone", "0 0 0 0 0 1 1 1 1 2 2", () -> nimbersUpTo(10));
        due("analyse(200) with 8", true, () -> desk.analyse(200) >= 1);
        desk.kind(SPLIT);
        due("analyse(201), the 8 being in no code", 1, () -> desk.analyse(201));
        desk.kind(CODE);
        desk.digit(2, 7);
        due("analyse(201) without 8", true, () -> desk.analyse(201) >= 1);
    }

    private void nimber() {
        code(3, 3, 3);
        desk.analyse(7);
        due("nimber(0)", 0, () -> desk.nimber(0));
        due("nimber(7)", 3, () -> desk.nimber(7));
        due("nimber(8)", INDEX, () -> desk.nimber(8));
        due("nimber(-1)", INDEX, () -> desk.nimber(-1));
        due("nimber(least int)", INDEX, () -> desk.nimber(Integer.MIN_VALUE));
        due("nimber(greatest int)", INDEX, () -> desk.nimber(Integer.MAX_VALUE));
    }

    private void frequency() {
        code(3, 3);
        due("frequency(0) of heap 0 alone", 1, () -> desk.frequency(0));
        desk.analyse(7);
        due("frequency(0)", 3, () -> desk.frequency(0));
        due("frequency(1)", 3, () -> desk.frequency(1));
        due("frequency(2)", 2, () -> desk.frequency(2));
        due("frequency(3)", 0, () -> desk.frequency(3));
        due("frequency(-1)", 0, () -> desk.frequency(-1));
        desk.analyse(2);
        due("frequency(0) of the smaller table", 1, () -> desk.frequency(0));
    }

    private void periodOfCode() {
        desk = new CountedDesk();
        periodIs("of heap 0 alone", -1, -1);
        desk.analyse(1);
        periodIs("of no moves", 1, 0);
        // With n = 71, p = 12, k = 2 the last pair is that of 155 and 167.
        code(7, 7);
        desk.analyse(166);
        periodIs("of Kayles up to 166", -1, -1);
        desk.analyse(167);
        periodIs("of Kayles up to 167", 12, 71);
        desk.analyse(166);
        periodIs("of Kayles up to 166 again", -1, -1);
        // With n = 53, p = 34, k = 2 the last pair ends at 175.
        code(0, 7);
        desk.analyse(174);
        periodIs("of Dawson's Kayles up to 174", -1, -1);
        desk.analyse(175);
        periodIs("of Dawson's Kayles up to 175", 34, 53);
        code(3, 3);
        desk.analyse(6);
        periodIs("of 0.33 up to 6", -1, -1);
        desk.analyse(7);
        periodIs("of 0.33 up to 7", 3, 0);
        // All nimbers are 0 up to 11: a code that ends at place 2 would have been proved to go on so.
        code(0, 0, 0, 0, 0, 0, 0, 0, 0, 0, 0, 1);
        desk.analyse(11);
        periodIs("of a digit at place 12", -1, -1);
        due("period(2)", INDEX, () -> desk.period(2));
        due("period(-1)", INDEX, () -> desk.period(-1));
    }

    private void periodOfSubtraction() {
        rule(SUBTRACTION);
        periodIs("of no numbers", 1, 0);
        desk.analyse(9);
        periodIs("of no numbers up to 9", 1, 0);
        subtraction(1, 3, 4);
        desk.analyse(9);
        periodIs("of 1, 3, 4 up to 9", -1, -1);
        desk.analyse(10);
        periodIs("of 1, 3, 4 up to 10", 7, 0);
        subtraction(2, 4, 7);
        desk.analyse(17);
        periodIs("of 2, 4, 7 up to 17", 3, 8);
        desk.analyse(16);
        periodIs("of 2, 4, 7 up to 16", -1, -1);
        subtraction(64);
        desk.analyse(63);
        periodIs("of 64 up to 63", -1, -1);
        desk.analyse(191);
        periodIs("of 64 up to 191", 128, 0);
    }

    private void periodOfOthers() {
        int[] others = {SPLIT, UNLIKE, TABLE};
        for (int kind : others) {
            rule(kind);
            desk.analyse(50);
            periodIs("of kind " + kind, -1, -1);
            due("period(2) of kind " + kind, INDEX, () -> desk.period(2));
        }
        code(3, 0, 0, 8);
        desk.analyse(200);
        periodIs("of a code with 8", -1, -1);
    }

    private void options() {
        code(7, 7);
        due("options(0)", 0, () -> desk.options(0));
        due("options(1)", 1, () -> desk.options(1));
        due("options(2000)", 2000, () -> desk.options(2000));
        due("options(2001)", ARGUMENT, () -> desk.options(2001));
        due("options(-1)", ARGUMENT, () -> desk.options(-1));
        desk.digit(12, 8);
        due("options(60)", 60 + 192, () -> desk.options(60));
        due("options(61)", ARGUMENT, () -> desk.options(61));
        due("option(61, 0, 0)", ARGUMENT, () -> desk.option(61, 0, 0));
        desk.kind(SPLIT);
        due("options(2000) of SPLIT", 1000, () -> desk.options(2000));
        desk.kind(UNLIKE);
        due("options(2000) of UNLIKE", 999, () -> desk.options(2000));
        due("options(1999) of UNLIKE", 999, () -> desk.options(1999));
        due("options(2) of UNLIKE", 0, () -> desk.options(2));
        subtraction(1, 64);
        due("options(63) of SUBTRACTION", 1, () -> desk.options(63));
        due("options(64) of SUBTRACTION", 2, () -> desk.options(64));
    }

    private void optionOfCode() {
        code(15, 6, 1);
        due("options of 1", "0+0+0", () -> optionsOf(1));
        due("options of 3", "2+0+0 1+1+0 1+0+0 0+0+0", () -> optionsOf(3));
        due("options of 7", "6+0+0 1+5+0 2+4+0 3+3+0 1+1+4 1+2+3 2+2+2 5+0+0 1+4+0 2+3+0", () -> optionsOf(7));
        due("option(7, 10, 0)", INDEX, () -> desk.option(7, 10, 0));
        due("option(7, -1, 0)", INDEX, () -> desk.option(7, -1, 0));
        due("option(7, 0, 3)", INDEX, () -> desk.option(7, 0, 3));
        due("option(7, 0, -1)", INDEX, () -> desk.option(7, 0, -1));
        due("option(0, 0, 0)", INDEX, () -> desk.option(0, 0, 0));
        due("option(-1, 99, 9)", ARGUMENT, () -> desk.option(-1, 99, 9));
        code(1, 2, 4);
        due("1 when no heap is left", "0+0+0", () -> optionsOf(1));
        due("2 when one heap is left", "1+0+0", () -> optionsOf(3));
        due("2 takes not all", 0, () -> desk.options(2));
        due("4 when two heaps are left", "4+0+0 1+2+0", () -> optionsOf(6));
    }

    private void optionOfOtherRules() {
        subtraction(2, 5, 1);
        due("SUBTRACTION", "4+0+0 3+0+0 0+0+0", () -> optionsOf(5));
        rule(SPLIT);
        due("SPLIT", "1+5+0 2+4+0 3+3+0", () -> optionsOf(6));
        due("option(6, 3, 0)", INDEX, () -> desk.option(6, 3, 0));
        rule(UNLIKE);
        due("UNLIKE", "1+5+0 2+4+0", () -> optionsOf(6));
        rule(TABLE);
        int[][] entries = {{0, 0}, {3, 3}, {0, 5}, {4, 1}, {2, 3}, {5, 1}, {1, 1}, {2, 0}, {1, 0}};
        for (int[] entry : entries) {
            desk.entry(6, entry[0], entry[1], true);
        }
        due("TABLE", "1+5+0 3+3+0 5+0+0 1+4+0 2+3+0 2+0+0 1+1+0 1+0+0 0+0+0", () -> optionsOf(6));
        desk.entry(6, 0, 0, false);
        due("TABLE without one", 8, () -> desk.options(6));
    }

    private void heapAndAt() {
        code(7, 7);
        due("heap(0, 2000)", 0, () -> desk.heap(0, 2000));
        due("heap(0, 4)", 2000, () -> desk.heap(0, 4));
        due("heap(15, 1)", 0, () -> desk.heap(15, 1));
        due("at(15)", 1, () -> desk.at(15));
        due("at(14)", 0, () -> desk.at(14));
        due("at(16)", INDEX, () -> desk.at(16));
        due("at(-1)", INDEX, () -> desk.at(-1));
        desk.play(0);
        due("heap(16, 1)", INDEX, () -> desk.heap(16, 1));
        due("heap(-1, 2001)", INDEX, () -> desk.heap(-1, 2001));
        due("heap(0, 2001)", ARGUMENT, () -> desk.heap(0, 2001));
        due("heap(0, -1)", ARGUMENT, () -> desk.heap(0, -1));
        due("moves behind refused calls", 1, () -> desk.count(3));
        due("heap(3, 0)", 0, () -> desk.heap(3, 0));
        due("moves behind heap()", 0, () -> desk.count(3));
        due("undo() behind heap()", STATE, () -> desk.undo());
        due("the sum", "3 0 0 0 0 0 0 0 0 0 0 0 0 0 0 1", () -> heapsOfSum());
        desk.analyse(4);
        desk.quotient(2);
        desk.heap(0, 1);
        due("the table behind heap()", 4, () -> desk.count(0));
        due("the quotient behind heap()", true, () -> desk.count(4) > 0);
    }

    private void moves() {
        code(7, 7);
        due("moves() without a heap", 0, () -> desk.moves());
        sum(5, 0, 7, 2);
        due("moves()", 5 + 7 + 2, () -> desk.moves());
        sum(60);
        desk.digit(3, 8);
        due("moves() of 60 with 8", true, () -> desk.moves() > 0);
        desk.heap(15, 61);
        due("moves() of 61 with 8", UNSUPPORTED, () -> desk.moves());
        due("move() of 61 with 8", UNSUPPORTED, () -> desk.move(-1, 9));
        due("play() of 61 with 8", UNSUPPORTED, () -> desk.play(-1));
        due("wins() of 61 with 8", UNSUPPORTED, () -> desk.wins(-1));
        desk.kind(UNLIKE);
        due("moves() of 61, the 8 being in no code", 29 + 30, () -> desk.moves());
    }

    private void move() {
        code(15, 7);
        sum(0, 3, 0, 4);
        String[] all = {"1:2+0+0", "1:1+1+0", "1:1+0+0", "3:3+0+0", "3:1+2+0", "3:1+1+1", "3:2+0+0", "3:1+1+0"};
        due("moves()", all.length, () -> desk.moves());
        for (int i = 0; i < all.length; i++) {
            int move = i;
            due("move " + move, all[move], () -> moveAt(move));
        }
        due("move(8, 0)", INDEX, () -> desk.move(8, 0));
        due("move(-1, 0)", INDEX, () -> desk.move(-1, 0));
        due("move(0, 4)", INDEX, () -> desk.move(0, 4));
        due("move(0, -1)", INDEX, () -> desk.move(0, -1));
    }

    private void play() {
        code(15, 15);
        sum(0, 2, 0, 5, 0);
        due("play of no such move", INDEX, () -> desk.play(desk.moves()));
        due("play(-1)", INDEX, () -> desk.play(-1));
        // 2 has the options 1 and none; 5 has 4, 1+3, 2+2, 1+1+2, then 3, 1+2, 1+1+1.
        due("three heaps", 1, () -> desk.play(2 + 3));
        due("the sum behind it", "1 2 2 1", () -> heapsOfSum());
        due("no heap", 2, () -> desk.play(0));
        due("the sum behind it", "0 2 2 1", () -> heapsOfSum());
        due("one heap", 3, () -> desk.play(0));
        due("the sum behind it", "0 1 2 1", () -> heapsOfSum());
        due("count(3)", 3, () -> desk.count(3));
        sum(0, 2, 0, 5, 0);
        due("two heaps", 1, () -> desk.play(2 + 1));
        due("the sum behind it", "3 2 0 1", () -> heapsOfSum());
    }

    private void playWithoutRoom() {
        code(15);
        sum(4, 1, 1, 1, 1, 1, 1, 1, 1, 1, 1, 1, 1, 1, 0, 1);
        due("two more heaps in one place", STATE, () -> desk.play(2));
        due("nothing played", 0, () -> desk.count(3));
        due("nothing changed", "4 1 1 1 1 1 1 1 1 1 1 1 1 1 0 1", () -> heapsOfSum());
        due("one more heap in one place", 1, () -> desk.play(1));
        due("the sum behind it", "1 1 1 1 1 1 1 1 1 1 1 1 1 1 2 1", () -> heapsOfSum());
        sum(3, 3, 3, 3, 3, 3, 3, 3, 3, 3, 3, 3, 3, 3, 3, 3);
        due("one more heap without a place", STATE, () -> desk.play(1));
        desk.analyse(3);
        due("wins() needs no room", false, () -> desk.wins(1));
        due("one heap for one", 1, () -> desk.play(0));
        due("play behind the last move", INDEX, () -> desk.play(99));
    }

    private void wins() {
        code(7, 7);
        sum(5, 0, 0, 7, 2);
        due("wins() without a table", STATE, () -> desk.wins(0));
        due("wins() of no such move, without a table", INDEX, () -> desk.wins(14));
        desk.analyse(6);
        due("wins() with a heap above the table", STATE, () -> desk.wins(0));
        due("wins() with another heap above the table", STATE, () -> desk.wins(13));
        desk.analyse(7);
        boolean[] due = {false, false, true, false, false, false, false, false, false};
        for (int i = 0; i < due.length; i++) {
            int move = i;
            due("wins(" + move + ")", due[move], () -> desk.wins(move));
        }
        due("wins(14)", INDEX, () -> desk.wins(14));
        due("wins(-1)", INDEX, () -> desk.wins(-1));
        due("the sum stays", "5 0 0 7 2", () -> heapsOfSum());
        sum(1, 2, 3);
        due("no move wins at 0", false, () -> desk.wins(0));
        sum(1, 0, 3);
        due("3 to 1 beside 1", true, () -> desk.wins(3));
        due("3 to 2 beside 1", false, () -> desk.wins(1));
        sum(2);
        due("taking the last", true, () -> desk.wins(1));
        winsWithThreeHeaps();
    }

    private void winsWithThreeHeaps() {
        // The nimbers of 1 and 5 are 1, that of 6 is 2, those of 2, 3, 4 are 0.
        code(9);
        sum(9);
        desk.analyse(9);
        due("9 to 1 + 1 + 6", false, () -> desk.wins(0));
        due("9 to 1 + 2 + 5", true, () -> desk.wins(1));
        due("9 to 1 + 3 + 4", false, () -> desk.wins(2));
        sum(1, 8);
        due("8 to 1 + 1 + 5 beside 1", true, () -> desk.wins(1));
        due("8 to 2 + 2 + 3 beside 1", false, () -> desk.wins(4));
        desk.heap(0, 10);
        due("the first heap alone above the table", STATE, () -> desk.wins(0));
    }

    private void undo() {
        code(15, 15);
        sum(0, 2, 0, 5);
        desk.play(2 + 3);
        desk.play(0);
        desk.kind(UNLIKE);
        due("undo() behind another rule", 1, () -> desk.undo());
        due("the sum", "1 2 2 1", () -> heapsOfSum());
        due("undo()", 0, () -> desk.undo());
        due("the sum of the beginning", "0 2 0 5", () -> heapsOfSum());
        due("undo() without a move", STATE, () -> desk.undo());
        due("play() behind undo()", 1, () -> desk.play(0));
        due("the sum", "4 2 0 1", () -> heapsOfSum());
        due("count(3)", 1, () -> desk.count(3));
        undoManyMoves();
    }

    private void undoManyMoves() {
        code(3);
        desk.heap(0, 2000);
        for (int i = 1; i <= 240; i++) {
            int move = i;
            due("play " + move, move, () -> desk.play(0));
        }
        for (int i = 239; i >= 0; i--) {
            int left = i;
            due("undo to " + left, left, () -> desk.undo());
        }
        due("the heap of the beginning", "2000", () -> heapsOfSum());
    }

    private void value() {
        code(3, 3, 3);
        sum(1, 2, 7);
        due("value() without a table", STATE, () -> desk.value());
        desk.analyse(6);
        due("value() with a heap above the table", STATE, () -> desk.value());
        desk.analyse(7);
        due("value()", 1 ^ 2 ^ 3, () -> desk.value());
        desk.heap(9, 2);
        due("value()", 1 ^ 2 ^ 3 ^ 2, () -> desk.value());
        sum();
        due("value() of no heaps", 0, () -> desk.value());
        code(8);
        sum(100);
        desk.analyse(200);
        due("value() of a heap without options", true, () -> desk.value() >= 0);
    }

    private void lastLoses() {
        code(3, 3, 3, 3, 3, 3, 3, 3, 3, 3, 3, 3);
        lastLosesIs(true);
        lastLosesIs(false, 1);
        lastLosesIs(true, 1, 1);
        lastLosesIs(true, 2);
        lastLosesIs(false, 2, 2);
        lastLosesIs(true, 0, 2, 0, 0, 1);
        lastLosesIs(false, 1, 2, 3);
        lastLosesIs(false, 3, 5, 6);
        lastLosesIs(true, 3, 6, 6);
        lastLosesIs(true, 1, 1, 1, 1, 1, 1, 1, 1, 1, 1, 1, 1, 1, 1, 1, 1);
        sum(17);
        due("lastLoses() of 17", UNSUPPORTED, () -> desk.lastLoses());
        sum(16, 0, 0, 1);
        due("lastLoses() of 16 and 1", UNSUPPORTED, () -> desk.lastLoses());
        // Splitting goes on until 16 heaps of 1 are there, after 15 moves, whatever is done.
        rule(SPLIT);
        lastLosesIs(false, 16);
        lastLosesIs(true, 15);
        lastLosesIs(true, 1, 1);
        subtraction(1, 15, 16);
        lastLosesIs(true, 16);
        code(9);
        lastLosesIs(true, 4);
        lastLosesIs(false, 5);
        rule(UNLIKE);
        lastLosesIs(true, 2, 2);
        lastLosesIs(false, 3);
        lastLosesIs(true, 3, 3);
        longestPlay();
    }

    /** All plays from h are of one length: 2 * h - 1 moves, and no heap has a longer one; later h - 1 moves. */
    private void longestPlay() {
        rule(TABLE);
        for (int from = 1; from <= 16; from++) {
            desk.entry(from, from - 1, from > 1 ? 1 : 0, true);
        }
        lastLosesIs(false, 16);
        lastLosesIs(true, 8, 8);
        desk.entry(1, 0, 0, false);
        lastLosesIs(false, 16);
        lastLosesIs(true, 8, 8);
        lastLosesIs(true, 1, 15);
        due("lastLoses() behind another rule", false, () -> {
            desk.entry(15, 13, 0, true);
            desk.entry(15, 1, 14, false);
            return desk.lastLoses();
        });
    }

    private void quotient() {
        subtraction(1, 3, 4);
        due("quotient(2)", 2, () -> desk.quotient(2));
        due("quotient(0)", ARGUMENT, () -> desk.quotient(0));
        due("quotient(4)", ARGUMENT, () -> desk.quotient(4));
        due("the quotient behind refused calls", 2, () -> desk.count(4));
        due("quotient(1)", 2, () -> desk.quotient(1));
        desk = new CountedDesk();
        due("quotient(3) without moves", 1, () -> desk.quotient(3));
        due("its sums", 35, () -> desk.ofClass(0, 1));
        due("quotient(2) without moves", 1, () -> desk.quotient(2));
        due("its sums", 15, () -> desk.ofClass(0, 1));
        due("quotient(1) without moves", 1, () -> desk.quotient(1));
        due("its sums", 5, () -> desk.ofClass(0, 1));
        // Nim with heaps of 1 and 2: none, 1, 2, 1+2, 2+2 and 1+2+2 are all told apart.
        subtraction(1, 2);
        due("quotient(2) of Nim", 6, () -> desk.quotient(2));
        // With 3 taken too, a heap of 3 is no other thing than 1 + 2.
        desk.number(3, true);
        due("quotient(3) of Nim", 6, () -> desk.quotient(3));
        due("3 as 1 + 2", true, () -> desk.ofClass(0, 4) == desk.ofClass(desk.ofClass(0, 2), 3));
    }

    private void classOf() {
        subtraction(1, 2);
        due("classOf() without a quotient", STATE, () -> desk.classOf());
        desk.quotient(2);
        classOfIs(0);
        classOfIs(1, 1);
        classOfIs(2, 2);
        classOfIs(0, 1, 1);
        classOfIs(3, 0, 2, 0, 0, 0, 0, 0, 0, 0, 0, 0, 0, 0, 0, 0, 1);
        classOfIs(4, 2, 2);
        classOfIs(5, 2, 2, 1);
        classOfIs(2, 2, 2, 2);
        classOfIs(4, 2, 2, 2, 2);
        classOfIs(UNSUPPORTED, 2, 2, 2, 2, 1);
        classOfIs(UNSUPPORTED, 3);
        classOfIs(UNSUPPORTED, 2000);
        desk.quotient(1);
        classOfIs(UNSUPPORTED, 2);
        classOfIs(1, 1, 1, 1);
        desk.quotient(3);
        // Taking 1 or 2, a heap of 3 is worth nothing.
        classOfIs(0, 3, 3, 3, 3);
        classOfIs(2, 3, 2);
    }

    private void ofClass() {
        subtraction(1, 2);
        due("ofClass() without a quotient", STATE, () -> desk.ofClass(-1, 9));
        desk.quotient(2);
        int[][] rows = {{1, 3, 1, 2, -1}, {0, 2, 0, 3, -1}, {1, 3, 3, 4, -1}, {1, 3, 2, 5, -1}, {0, 3, 5, 2, -1},
            {1, 1, 4, 3, -1}};
        for (int row = 0; row < rows.length; row++) {
            for (int column = 0; column < rows[row].length; column++) {
                int c = row;
                int what = column;
                due("ofClass(" + c + ", " + what + ")", rows[c][what], () -> desk.ofClass(c, what));
            }
        }
        due("ofClass(6, 0)", INDEX, () -> desk.ofClass(6, 0));
        due("ofClass(-1, 0)", INDEX, () -> desk.ofClass(-1, 0));
        due("ofClass(0, 5)", INDEX, () -> desk.ofClass(0, 5));
        due("ofClass(0, -1)", INDEX, () -> desk.ofClass(0, -1));
        desk.quotient(1);
        due("ofClass(0, 3) for size 1", -1, () -> desk.ofClass(0, 3));
        due("ofClass(1, 2) for size 1", 0, () -> desk.ofClass(1, 2));
        desk.quotient(3);
        due("ofClass(0, 4) for size 3", 0, () -> desk.ofClass(0, 4));
    }

    private void count() {
        code(3, 3, 3);
        desk.analyse(9);
        sum(4, 0, 5, 0, 6);
        desk.play(0);
        desk.quotient(2);
        int classes = desk.quotient(1);
        int[] due = {9, 3, 3, 1, classes};
        for (int i = 0; i < due.length; i++) {
            int what = i;
            due("count(" + what + ")", due[what], () -> desk.count(what));
        }
        due("count(5)", -1, () -> desk.count(5));
        due("count(-1)", -1, () -> desk.count(-1));
        desk.digit(1, 3);
        due("count(4) without a quotient", -1, () -> desk.count(4));
        due("count(2) behind a rule", 3, () -> desk.count(2));
        due("count(3) behind a rule", 1, () -> desk.count(3));
    }
}
