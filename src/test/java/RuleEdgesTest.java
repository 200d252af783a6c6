/** Edges of promises 1 to 5: a new object, and the telling of rules. */
public final class RuleEdgesTest extends Cases {
    private RuleEdgesTest() {
        super("edges of rules");
    }

    public static void main(String[] args) {
        RuleEdgesTest test = new RuleEdgesTest();
        test.face();
        test.newObject();
        test.kinds();
        test.digits();
        test.numbers();
        test.entries();
        test.gone();
        test.end();
    }

    private void face() {
        holds("NONE = -1", () -> due("NONE", -1, () -> HeapDesk.NONE));
    }

    private void newObject() {
        holds("HeapDesk(): CODE", () -> due("kind(0)", CODE, () -> desk.kind(CODE)));
        holds("HeapDesk(): CODE with digits 0", this::newDigits);
        holds("HeapDesk(): no numbers", this::newNumbers);
        holds("HeapDesk(): no entries", this::newEntries);
        holds("HeapDesk(): no heaps", this::newSum);
        holds("HeapDesk(): a table of heap 0 alone", this::newTable);
        holds("HeapDesk(): no quotient", () -> quotientIsGone("HeapDesk()"));
        holds("HeapDesk(): nothing played", this::newMoves);
    }

    private void newDigits() {
        for (int h = 0; h <= 20; h++) {
            int heap = h;
            due("options(" + heap + ")", 0, () -> desk.options(heap));
        }
        for (int p = 1; p <= 12; p++) {
            int place = p;
            due("digit(" + place + ", 0)", 0, () -> desk.digit(place, 0));
        }
    }

    private void newNumbers() {
        desk.kind(SUBTRACTION);
        due("options(2000)", 0, () -> desk.options(2000));
        for (int i = 1; i <= 64; i++) {
            int number = i;
            due("number(" + number + ", false)", false, () -> desk.number(number, false));
        }
    }

    private void newEntries() {
        desk.kind(TABLE);
        for (int h = 0; h <= 65; h++) {
            int heap = h;
            due("options(" + heap + ")", 0, () -> desk.options(heap));
        }
    }

    private void newSum() {
        for (int p = 0; p < 16; p++) {
            int place = p;
            due("at(" + place + ")", 0, () -> desk.at(place));
        }
        due("count(2)", 0, () -> desk.count(2));
        desk.digit(1, 3);
        due("moves()", 0, () -> desk.moves());
    }

    private void newTable() {
        due("count(0)", 0, () -> desk.count(0));
        due("count(1)", 0, () -> desk.count(1));
        due("nimber(0)", 0, () -> desk.nimber(0));
        due("nimber(1)", INDEX, () -> desk.nimber(1));
        due("frequency(0)", 1, () -> desk.frequency(0));
        due("value()", 0, () -> desk.value());
    }

    private void newMoves() {
        due("count(3)", 0, () -> desk.count(3));
        due("undo()", STATE, () -> desk.undo());
    }

    private void kinds() {
        holds("The rule is of a kind (0 .. 4): the one before", this::kindBefore);
        holds("IllegalArgumentException, for another kind: too small", () -> kindRefused(-1, LEAST));
        holds("IllegalArgumentException, for another kind: too large", () -> kindRefused(5, GREATEST));
        holds("(a refused kind is not the one before)", this::kindBehindRefused);
        holds("Digits, numbers and entries stay", this::kindKeepsRules);
        holds("kind(): the quotient is gone", this::kindForgetsQuotient);
        holds("(kind() leaves the sum and the moves that were played)", this::kindKeepsSum);
    }

    private void kindBefore() {
        int before = CODE;
        for (int kind : new int[] {0, 1, 2, 3, 4, 4, 0}) {
            due("kind(" + kind + ")", before, () -> desk.kind(kind));
            before = kind;
        }
    }

    private void kindRefused(int... kinds) {
        for (int kind : kinds) {
            due("kind(" + kind + ")", ARGUMENT, () -> desk.kind(kind));
        }
    }

    private void kindBehindRefused() {
        desk.kind(SPLIT);
        due("kind(5)", ARGUMENT, () -> desk.kind(5));
        due("options(4) of SPLIT", 2, () -> desk.options(4));
        due("kind(0)", SPLIT, () -> desk.kind(CODE));
    }

    private void kindKeepsRules() {
        desk.digit(2, 3);
        desk.number(3, true);
        desk.entry(5, 4, 1, true);
        for (int kind : new int[] {4, 3, 2, 1, 0}) {
            desk.kind(kind);
        }
        due("the digit", "3+0+0", () -> optionsOf(5));
        desk.kind(SUBTRACTION);
        due("the number", "2+0+0", () -> optionsOf(5));
        desk.kind(TABLE);
        due("the entry", "1+4+0", () -> optionsOf(5));
        due("digit(2, 0)", 3, () -> desk.digit(2, 0));
        due("number(3, false)", true, () -> desk.number(3, false));
        due("entry(5, 1, 4, false)", true, () -> desk.entry(5, 1, 4, false));
    }

    private void kindForgetsQuotient() {
        for (int kind : new int[] {0, 1, 2, 3, 4, 4}) {
            desk.quotient(2);
            desk.kind(kind);
            quotientIsGone("kind(" + kind + ")");
        }
    }

    private void kindKeepsSum() {
        code(7, 7);
        sum(5, 0, 3);
        desk.play(1);
        desk.kind(TABLE);
        due("count(3)", 1, () -> desk.count(3));
        due("the sum", "1 3 3", () -> heapsOfSum());
    }

    private void digits() {
        holds("A digit at a place: the one before", this::digitBefore);
        holds("digit(): when there is no such place: too low", () -> digitRefused(INDEX, 7, 0, -1, LEAST));
        holds("digit(): when there is no such place: too high", () -> digitRefused(INDEX, 7, 13, 14, GREATEST));
        holds("digit(): when it is not 0 .. 15: too small", () -> digitOutside(-1, LEAST));
        holds("digit(): when it is not 0 .. 15: too large", () -> digitOutside(16, GREATEST));
        holds("digit(): the least and the greatest digit", this::digitInside);
        holds("(a refused digit is not the one before)", this::digitBehindRefused);
        holds("digit(): the quotient is gone", this::digitForgetsQuotient);
    }

    private void digitBefore() {
        for (int place : new int[] {1, 12}) {
            due("digit(" + place + ", 15)", 0, () -> desk.digit(place, 15));
            due("digit(" + place + ", 8)", 15, () -> desk.digit(place, 8));
            due("digit(" + place + ", 8) again", 8, () -> desk.digit(place, 8));
            due("digit(" + place + ", 0)", 8, () -> desk.digit(place, 0));
            due("digit(" + place + ", 1)", 0, () -> desk.digit(place, 1));
        }
        due("the first place", 1, () -> desk.digit(1, 0));
        due("a place between", 0, () -> desk.digit(6, 0));
        due("the last place", 1, () -> desk.digit(12, 0));
    }

    private void digitRefused(Object want, int digit, int... places) {
        for (int place : places) {
            due("digit(" + place + ", " + digit + ")", want, () -> desk.digit(place, digit));
        }
    }

    private void digitOutside(int... digits) {
        for (int digit : digits) {
            digitRefused(ARGUMENT, digit, 1, 6, 12);
        }
    }

    private void digitInside() {
        digitRefused(0, 0, 1, 6, 12);
        digitRefused(0, 15, 1, 6, 12);
        digitRefused(15, 0, 1, 6, 12);
    }

    private void digitBehindRefused() {
        desk.digit(1, 3);
        due("digit(1, 16)", ARGUMENT, () -> desk.digit(1, 16));
        due("options(4)", "3+0+0", () -> optionsOf(4));
        due("digit(1, 0)", 3, () -> desk.digit(1, 0));
    }

    private void digitForgetsQuotient() {
        desk.quotient(2);
        desk.digit(1, 3);
        quotientIsGone("digit(1, 3)");
        desk.quotient(2);
        desk.digit(1, 3);
        quotientIsGone("digit(1, 3), which it was");
        desk.quotient(2);
        desk.digit(12, 0);
        quotientIsGone("digit(12, 0), above all heaps of a quotient");
        desk.kind(SPLIT);
        desk.quotient(2);
        desk.digit(1, 0);
        quotientIsGone("digit(1, 0) with another kind");
    }

    private void numbers() {
        holds("A number is one of the numbers from now on, or none: whether it was", this::numberBefore);
        holds("number(): when it is not 1 .. 64: too small", () -> numberRefused(0, -1, LEAST));
        holds("number(): when it is not 1 .. 64: too large", () -> numberRefused(65, GREATEST));
        holds("number(): the quotient is gone", this::numberForgetsQuotient);
    }

    private void numberBefore() {
        for (int number : new int[] {1, 64}) {
            due("number(" + number + ", true)", false, () -> desk.number(number, true));
            due("number(" + number + ", true) again", true, () -> desk.number(number, true));
            due("number(" + number + ", false)", true, () -> desk.number(number, false));
            due("number(" + number + ", false) again", false, () -> desk.number(number, false));
            due("number(" + number + ", true) once more", false, () -> desk.number(number, true));
        }
        due("a number between", false, () -> desk.number(63, false));
        desk.kind(SUBTRACTION);
        due("the options", "64+0+0 1+0+0", () -> optionsOf(65));
    }

    private void numberRefused(int... numbers) {
        desk.kind(SUBTRACTION);
        for (int number : numbers) {
            due("number(" + number + ", true)", ARGUMENT, () -> desk.number(number, true));
            due("number(" + number + ", false)", ARGUMENT, () -> desk.number(number, false));
        }
        due("options(2000)", 0, () -> desk.options(2000));
    }

    private void numberForgetsQuotient() {
        desk.kind(SUBTRACTION);
        for (boolean is : new boolean[] {true, true, false, false}) {
            desk.quotient(2);
            desk.number(64, is);
            quotientIsGone("number(64, " + is + ")");
        }
        desk.kind(CODE);
        desk.quotient(2);
        desk.number(1, true);
        quotientIsGone("number(1, true) with another kind");
    }

    private void entries() {
        holds("An entry is one of the table's from now on, or none: whether it was", this::entryBefore);
        holds("to and other are heaps in any order", this::entryInAnyOrder);
        holds("0 for none", this::entryWithoutHeaps);
        holds("entry(): when from is not 1 .. 64: too small", this::fromTooSmall);
        holds("entry(): when from is not 1 .. 64: too large", this::fromTooLarge);
        holds("entry(): from 1 and from 64", this::fromInside);
        holds("entry(): a heap is below 0", this::entryBelowNothing);
        holds("entry(): a heap is not below from", this::entryNotBelowFrom);
        holds("entry(): both are more than from together", this::entryTooMuch);
        holds("entry(): the quotient is gone", this::entryForgetsQuotient);
    }

    private void entryIs(Object want, int from, int to, int other, boolean is) {
        due("entry(" + from + ", " + to + ", " + other + ", " + is + ")", want,
                () -> desk.entry(from, to, other, is));
    }

    private void entryBefore() {
        int[][] entries = {{1, 0, 0}, {64, 63, 1}, {64, 32, 32}, {64, 63, 0}, {64, 0, 0}, {63, 31, 32}, {2, 1, 1}};
        for (int[] one : entries) {
            entryIs(false, one[0], one[1], one[2], true);
            entryIs(true, one[0], one[1], one[2], true);
            entryIs(true, one[0], one[1], one[2], false);
            entryIs(false, one[0], one[1], one[2], false);
        }
        for (int[] one : entries) {
            entryIs(false, one[0], one[1], one[2], true);
        }
        desk.kind(TABLE);
        due("those of 64", "1+63+0 32+32+0 63+0+0 0+0+0", () -> optionsOf(64));
        due("those of 63", "31+32+0", () -> optionsOf(63));
        due("those of 62", 0, () -> desk.options(62));
        due("those of 2", "1+1+0", () -> optionsOf(2));
        due("those of 1", "0+0+0", () -> optionsOf(1));
    }

    private void entryInAnyOrder() {
        desk.kind(TABLE);
        entryIs(false, 9, 6, 2, true);
        entryIs(true, 9, 2, 6, true);
        due("both are one", "2+6+0", () -> optionsOf(9));
        entryIs(true, 9, 2, 6, false);
        entryIs(false, 9, 6, 2, false);
        entryIs(false, 9, 0, 8, true);
        entryIs(true, 9, 8, 0, false);
        due("none is left", 0, () -> desk.options(9));
    }

    private void entryWithoutHeaps() {
        desk.kind(TABLE);
        entryIs(false, 4, 0, 0, true);
        due("no heap", "0+0+0", () -> optionsOf(4));
        entryIs(false, 4, 0, 2, true);
        due("one heap", "2+0+0 0+0+0", () -> optionsOf(4));
        entryIs(false, 4, 3, 0, true);
        due("another one", "3+0+0 2+0+0 0+0+0", () -> optionsOf(4));
        entryIs(true, 4, 0, 0, false);
        due("one heap still", "3+0+0 2+0+0", () -> optionsOf(4));
    }

    private void fromTooSmall() {
        entryIs(ARGUMENT, 0, 0, 0, true);
        entryIs(ARGUMENT, -1, 0, 0, true);
        entryIs(ARGUMENT, -1, -2, -2, true);
        entryIs(ARGUMENT, LEAST, 0, 0, false);
    }

    private void fromTooLarge() {
        entryIs(ARGUMENT, 65, 0, 0, true);
        entryIs(ARGUMENT, 65, 1, 1, false);
        entryIs(ARGUMENT, GREATEST, 1, 1, true);
    }

    private void fromInside() {
        entryIs(false, 1, 0, 0, true);
        entryIs(false, 64, 0, 0, true);
        entryIs(false, 64, 63, 1, true);
    }

    private void entryBelowNothing() {
        entryIs(ARGUMENT, 5, -1, 2, true);
        entryIs(ARGUMENT, 5, 2, -1, true);
        entryIs(ARGUMENT, 5, -1, -1, true);
        entryIs(ARGUMENT, 5, LEAST, LEAST, true);
        entryIs(ARGUMENT, 5, 4, LEAST, true);
        entryIs(false, 5, 0, 2, true);
        entryIs(true, 5, 2, 0, true);
    }

    private void entryNotBelowFrom() {
        entryIs(ARGUMENT, 5, 5, 0, true);
        entryIs(ARGUMENT, 5, 0, 5, true);
        entryIs(ARGUMENT, 5, 6, 0, true);
        entryIs(ARGUMENT, 1, 1, 0, true);
        entryIs(ARGUMENT, 1, 0, 1, true);
        entryIs(ARGUMENT, 64, 64, 0, true);
        entryIs(ARGUMENT, 64, 0, 64, true);
        entryIs(ARGUMENT, 64, GREATEST, GREATEST, true);
        entryIs(false, 5, 4, 0, true);
        entryIs(false, 64, 0, 63, true);
    }

    private void entryTooMuch() {
        entryIs(ARGUMENT, 5, 3, 3, true);
        entryIs(ARGUMENT, 5, 4, 2, true);
        entryIs(ARGUMENT, 5, 2, 4, true);
        entryIs(ARGUMENT, 64, 63, 2, true);
        entryIs(ARGUMENT, 64, 33, 32, true);
        entryIs(ARGUMENT, 64, 63, 63, true);
        entryIs(false, 5, 4, 1, true);
        entryIs(false, 5, 2, 3, true);
        entryIs(false, 64, 32, 32, true);
    }

    private void entryForgetsQuotient() {
        desk.kind(TABLE);
        for (boolean is : new boolean[] {true, true, false, false}) {
            desk.quotient(2);
            desk.entry(64, 1, 1, is);
            quotientIsGone("entry(64, 1, 1, " + is + ")");
        }
        desk.kind(CODE);
        desk.quotient(2);
        desk.entry(2, 1, 1, true);
        quotientIsGone("entry(2, 1, 1, true) with another kind");
    }

    private void gone() {
        holds("it is gone when a rule is told: kind()", this::kindForgetsTable);
        holds("it is gone when a rule is told: digit()", this::digitForgetsTable);
        holds("it is gone when a rule is told: number()", this::numberForgetsTable);
        holds("it is gone when a rule is told: entry()", this::entryForgetsTable);
        holds("(... that throw nothing): the others leave the table and the quotient", this::refusedKeep);
        holds("(a table that is gone has no old nimbers when it is made again)", this::newNimbers);
    }

    private void tableIsGoneBehind(String what, Check.Call tell) {
        desk.analyse(9);
        tell.answer();
        tableIsGone(what);
        due("frequency(0) behind " + what, 1, () -> desk.frequency(0));
    }

    private void kindForgetsTable() {
        code(7, 7);
        for (int kind : new int[] {0, 1, 2, 3, 4, 4, 0}) {
            tableIsGoneBehind("kind(" + kind + ")", () -> desk.kind(kind));
        }
    }

    private void digitForgetsTable() {
        code(7, 7);
        tableIsGoneBehind("digit(2, 7), which it was", () -> desk.digit(2, 7));
        tableIsGoneBehind("digit(1, 6)", () -> desk.digit(1, 6));
        tableIsGoneBehind("digit(12, 1), above the table", () -> desk.digit(12, 1));
        desk.kind(UNLIKE);
        tableIsGoneBehind("digit(1, 3) with another kind", () -> desk.digit(1, 3));
    }

    private void numberForgetsTable() {
        subtraction(1, 3);
        tableIsGoneBehind("number(2, true)", () -> desk.number(2, true));
        tableIsGoneBehind("number(2, true), which it was", () -> desk.number(2, true));
        tableIsGoneBehind("number(2, false)", () -> desk.number(2, false));
        tableIsGoneBehind("number(64, false), which it was", () -> desk.number(64, false));
        desk.kind(UNLIKE);
        tableIsGoneBehind("number(1, false) with another kind", () -> desk.number(1, false));
    }

    private void entryForgetsTable() {
        table(new int[] {1, 0, 0}, new int[] {2, 1, 0});
        tableIsGoneBehind("entry(3, 1, 2, true)", () -> desk.entry(3, 1, 2, true));
        tableIsGoneBehind("entry(3, 2, 1, true), which it was", () -> desk.entry(3, 2, 1, true));
        tableIsGoneBehind("entry(3, 2, 1, false)", () -> desk.entry(3, 2, 1, false));
        tableIsGoneBehind("entry(64, 0, 0, false), which it was", () -> desk.entry(64, 0, 0, false));
        desk.kind(UNLIKE);
        tableIsGoneBehind("entry(2, 1, 0, false) with another kind", () -> desk.entry(2, 1, 0, false));
    }

    private void refusedKeep() {
        code(7, 7);
        keepsWhenRefused("kind(5)", ARGUMENT, () -> desk.kind(5));
        keepsWhenRefused("digit(13, 1)", INDEX, () -> desk.digit(13, 1));
        keepsWhenRefused("digit(1, 16)", ARGUMENT, () -> desk.digit(1, 16));
        keepsWhenRefused("number(65, true)", ARGUMENT, () -> desk.number(65, true));
        keepsWhenRefused("entry(5, 5, 0, true)", ARGUMENT, () -> desk.entry(5, 5, 0, true));
    }

    private void newNimbers() {
        code(3);
        desk.analyse(9);
        desk.digit(1, 0);
        due("the nimbers of no moves", "0 0 0 0 0", () -> nimbersUpTo(4));
        desk.kind(SPLIT);
        due("the nimbers of SPLIT", "0 0 1 0 1", () -> nimbersUpTo(4));
        desk.kind(SUBTRACTION);
        desk.number(2, true);
        due("the nimbers of taking 2", "0 0 1 1 0", () -> nimbersUpTo(4));
        desk.kind(TABLE);
        desk.entry(3, 0, 0, true);
        due("the nimbers of one entry", "0 0 0 1 0", () -> nimbersUpTo(4));
    }
}
