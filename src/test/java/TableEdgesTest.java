/** Edges of promises 6 to 9 and of the terms they stand on: nimbers, the table, proved periods. */
public final class TableEdgesTest extends Cases {
    private TableEdgesTest() {
        super("edges of the table");
    }

    public static void main(String[] args) {
        TableEdgesTest test = new TableEdgesTest();
        test.nimbersAsDefined();
        test.analysing();
        test.analysingWithEight();
        test.askingForNimbers();
        test.frequencies();
        test.periodsOfCodes();
        test.periodsOfSubtraction();
        test.periodsOfOthers();
        test.counts();
        test.end();
    }

    private void nimbersAsDefined() {
        holds("that of 0 counters is 0", this::nimberOfNothing);
        holds("the least number from 0 on that is not that of one of its options", this::leastThatIsNot);
        holds("(a heap without options has 0)", this::nimberWithoutOptions);
        holds("of an option the exclusive or of its heaps' nimbers: none, one, two", this::exclusiveOr);
        holds("of an option the exclusive or of its heaps' nimbers: three", this::exclusiveOrOfThree);
        holds("CODE: each digit tells of its own place alone", this::digitsOfDifferentPlaces);
    }

    private void nimberOfNothing() {
        for (int kind : KINDS) {
            desk.kind(kind);
            due("nimber(0)", 0, () -> desk.nimber(0));
            desk.analyse(3);
            due("nimber(0) behind analyse(3)", 0, () -> desk.nimber(0));
        }
    }

    private void leastThatIsNot() {
        // 1 has none, 2 has none and 1; then options with the nimbers 1 and 2, 0 and 2, 0 to 2, 1 alone.
        table(new int[] {1, 0, 0}, new int[] {2, 0, 0}, new int[] {2, 1, 0},
                new int[] {3, 1, 0}, new int[] {3, 2, 0},
                new int[] {4, 0, 0}, new int[] {4, 2, 0},
                new int[] {5, 0, 0}, new int[] {5, 1, 0}, new int[] {5, 2, 0},
                new int[] {6, 1, 0});
        due("the nimbers", "0 1 2 0 1 3 0", () -> nimbersUpTo(6));
    }

    private void nimberWithoutOptions() {
        due("no digits", "0 0 0", () -> nimbersUpTo(2));
        codeAt(2, 4);
        due("too few counters", "0 0 0 0 1", () -> nimbersUpTo(4));
    }

    private void exclusiveOr() {
        // With nimbers 1 and 2 for heaps of 1 and 2: those of 1 + 1, 1 + 2, 2 + 2 are 0, 3, 0.
        table(new int[] {1, 0, 0}, new int[] {2, 0, 0}, new int[] {2, 1, 0},
                new int[] {3, 1, 1},
                new int[] {4, 2, 2}, new int[] {4, 1, 0}, new int[] {4, 2, 0},
                new int[] {5, 0, 0}, new int[] {5, 1, 0}, new int[] {5, 2, 0}, new int[] {5, 1, 2},
                new int[] {6, 1, 2});
        due("the nimbers", "0 1 2 1 3 4 0", () -> nimbersUpTo(6));
    }

    private void exclusiveOrOfThree() {
        // Taking 1: of 4 is left 1 + 1 + 1 (nimber 1), of 5 is left 1 + 1 + 2 (nimber 0).
        code(9);
        due("the nimbers", "0 1 0 0 0 1 2 2 2 3 4 4 4 5 6 6 6 7 8 3 8 3 8 10 10 10 12 7 12 7 12 5 14 5 14 16 16 11",
                () -> nimbersUpTo(37));
        due("analyse(200)", 96, () -> desk.analyse(200));
    }

    private void digitsOfDifferentPlaces() {
        code(1, 4);
        due("0.14", "0 1 0 0 1 0 2 1 2 2 1 0 4 1 4 4 1 2 2 1 2", () -> nimbersUpTo(20));
        code(1, 2, 4, 8);
        due("0.1248", "0 1 0 0 1 1 0 2 1 3 2 2 3 3 2 4 3 5 4 4 5 5 4 6 5 7", () -> nimbersUpTo(25));
        code(4, 8, 1, 2);
        due("0.4812", "0 0 0 1 1 2 2 3 3 4 4 5 5 6 6 7 7 8 8 9 9", () -> nimbersUpTo(20));
    }

    private void analysing() {
        holds("Analyses heaps up to n: the greatest nimber", this::greatestNimber);
        holds("analyse(): when n is not 0 .. 2000: too small", () -> analyseRefused(-1, LEAST));
        holds("analyse(): when n is not 0 .. 2000: too large", () -> analyseRefused(2001, GREATEST));
        holds("analyse(0): heap 0 alone", this::analyseNothing);
        holds("analyse(2000) with every kind", this::analyseAll);
        holds("THE TABLE has them up to the heap that was analysed: a smaller one", this::smallerTable);
        holds("THE TABLE has them up to the heap that was analysed: a greater one", this::greaterTable);
        holds("analyse(): nimbers above 63, above 127, above 1000", this::greatNimbers);
        holds("(a refused n leaves the table)", this::refusedAnalyse);
        holds("TABLE, from a heap of 1 to 64 counters", this::tableUpTo64);
    }

    private void greatestNimber() {
        // Kayles has 0 1 2 3 1 4 3 2 1 4 2 6 4: the greatest one is not the last one's.
        code(7, 7);
        int[] greatest = {0, 1, 2, 3, 3, 4, 4, 4, 4, 4, 4, 6, 6};
        for (int i = 0; i < greatest.length; i++) {
            int n = i;
            due("analyse(" + n + ")", greatest[n], () -> desk.analyse(n));
        }
    }

    private void analyseRefused(int... heaps) {
        for (int kind : KINDS) {
            desk.kind(kind);
            for (int n : heaps) {
                due("analyse(" + n + ") with kind " + kind, ARGUMENT, () -> desk.analyse(n));
            }
        }
    }

    private void analyseNothing() {
        code(3);
        desk.analyse(5);
        due("analyse(0)", 0, () -> desk.analyse(0));
        due("count(0)", 0, () -> desk.count(0));
        due("nimber(0)", 0, () -> desk.nimber(0));
        due("nimber(1)", INDEX, () -> desk.nimber(1));
        due("frequency(0)", 1, () -> desk.frequency(0));
        due("frequency(1)", 0, () -> desk.frequency(1));
    }

    private void analyseAll() {
        code(3);
        due("analyse(2000) with CODE", 1, () -> desk.analyse(2000));
        due("nimber(2000) with CODE", 0, () -> desk.nimber(2000));
        due("frequency(0) with CODE", 1001, () -> desk.frequency(0));
        code(7, 7);
        due("analyse(2000) of Kayles", 8, () -> desk.analyse(2000));
        due("nimber(2000) of Kayles", true, () -> desk.nimber(2000) == desk.nimber(2000 - 12 * 160));
        subtraction(1, 2);
        due("analyse(2000) with SUBTRACTION", 2, () -> desk.analyse(2000));
        due("nimber(2000) with SUBTRACTION", 2, () -> desk.nimber(2000));
        rule(SPLIT);
        due("analyse(2000) with SPLIT", 1, () -> desk.analyse(2000));
        due("nimber(2000) with SPLIT", 1, () -> desk.nimber(2000));
        rule(UNLIKE);
        due("analyse(2000) with UNLIKE", 50, () -> desk.analyse(2000));
        due("nimber(2000) with UNLIKE", 39, () -> desk.nimber(2000));
        due("frequency(0) with UNLIKE", 42, () -> desk.frequency(0));
    }

    private void smallerTable() {
        code(7, 7);
        desk.analyse(11);
        due("analyse(10)", 4, () -> desk.analyse(10));
        due("count(0)", 10, () -> desk.count(0));
        due("count(1)", 4, () -> desk.count(1));
        due("nimber(10)", 2, () -> desk.nimber(10));
        due("nimber(11)", INDEX, () -> desk.nimber(11));
        due("frequency(6)", 0, () -> desk.frequency(6));
        desk.heap(0, 11);
        due("value() of 11", STATE, () -> desk.value());
    }

    private void greaterTable() {
        code(7, 7);
        desk.analyse(10);
        due("analyse(11)", 6, () -> desk.analyse(11));
        due("count(0)", 11, () -> desk.count(0));
        due("count(1)", 6, () -> desk.count(1));
        due("nimber(11)", 6, () -> desk.nimber(11));
        desk.analyse(4);
        due("all of a smaller and then a greater one", "0 1 2 3 1 4 3 2 1 4 2 6 4 1 2 7", () -> nimbersUpTo(15));
    }

    private void greatNimbers() {
        desk.kind(SUBTRACTION);
        for (int number = 1; number <= 64; number++) {
            desk.number(number, true);
        }
        due("analyse(2000) of taking 1 to 64", 64, () -> desk.analyse(2000));
        due("nimber(64)", 64, () -> desk.nimber(64));
        due("nimber(65)", 0, () -> desk.nimber(65));
        due("nimber(1949)", 64, () -> desk.nimber(1949));
        code(10, 15, 10, 15, 10, 15, 10, 15, 10, 15, 10, 15);
        due("analyse(200) of a full code", 199, () -> desk.analyse(200));
        for (int heap : new int[] {2, 64, 65, 128, 129, 200}) {
            due("nimber(" + heap + ")", heap - 1, () -> desk.nimber(heap));
        }
        code(6, 4, 4, 6, 6, 4, 6, 6, 6, 7, 4, 7);
        due("analyse(2000) of a full code without 8", 1313, () -> desk.analyse(2000));
        due("nimber(1000)", 612, () -> desk.nimber(1000));
        due("nimber(2000)", 177, () -> desk.nimber(2000));
    }

    private void refusedAnalyse() {
        code(7, 7);
        desk.analyse(11);
        due("analyse(2001)", ARGUMENT, () -> desk.analyse(2001));
        due("analyse(-1)", ARGUMENT, () -> desk.analyse(-1));
        due("count(0)", 11, () -> desk.count(0));
        due("count(1)", 6, () -> desk.count(1));
        due("nimber(11)", 6, () -> desk.nimber(11));
    }

    private void tableUpTo64() {
        table(new int[] {64, 0, 0}, new int[] {63, 0, 0}, new int[] {64, 63, 0}, new int[] {1, 0, 0});
        due("analyse(2000)", 2, () -> desk.analyse(2000));
        due("nimber(1)", 1, () -> desk.nimber(1));
        due("nimber(63)", 1, () -> desk.nimber(63));
        due("nimber(64)", 2, () -> desk.nimber(64));
        due("nimber(65)", 0, () -> desk.nimber(65));
        due("nimber(2000)", 0, () -> desk.nimber(2000));
    }

    private void analysingWithEight() {
        holds("(with CODE and an 8 in a digit 200)", this::eightInAnyDigit);
        holds("(an 8 in a digit, but another kind)", this::eightWithOtherKinds);
        holds("(an 8 in a digit no longer)", this::eightNoLonger);
    }

    private void eightInAnyDigit() {
        for (int place : new int[] {1, 12}) {
            for (int digit = 0; digit <= 15; digit++) {
                codeAt(place, digit);
                String with = " with " + digit + " at place " + place;
                due("analyse(200)" + with, true, () -> desk.analyse(200) >= 0);
                due("count(0)" + with, 200, () -> desk.count(0));
                due("analyse(201)" + with, digit < 8 ? 201 : ARGUMENT,
                        () -> Math.max(desk.analyse(201), desk.count(0)));
                due("analyse(2000)" + with, digit < 8 ? 2000 : ARGUMENT,
                        () -> Math.max(desk.analyse(2000), desk.count(0)));
                due("analyse(-1)" + with, ARGUMENT, () -> desk.analyse(-1));
            }
        }
    }

    private void eightWithOtherKinds() {
        codeAt(12, 8);
        for (int kind : new int[] {SUBTRACTION, SPLIT, UNLIKE, TABLE}) {
            desk.kind(kind);
            due("analyse(2000) with kind " + kind, true, () -> desk.analyse(2000) >= 0);
            due("count(0) with kind " + kind, 2000, () -> desk.count(0));
        }
        desk.kind(CODE);
        due("analyse(201) with CODE again", ARGUMENT, () -> desk.analyse(201));
    }

    private void eightNoLonger() {
        codeAt(7, 15);
        due("analyse(201)", ARGUMENT, () -> desk.analyse(201));
        desk.digit(7, 7);
        due("analyse(201) behind digit(7, 7)", true, () -> desk.analyse(201) > 0);
        due("count(0)", 201, () -> desk.count(0));
        desk.digit(7, 8);
        due("analyse(201) behind digit(7, 8)", ARGUMENT, () -> desk.analyse(201));
    }

    private void askingForNimbers() {
        holds("nimber(): when it has no such heap: too small", this::nimberTooSmall);
        holds("nimber(): when it has no such heap: too large", this::nimberTooLarge);
    }

    private void nimberTooSmall() {
        code(3, 3);
        desk.analyse(5);
        due("nimber(0)", 0, () -> desk.nimber(0));
        due("nimber(-1)", INDEX, () -> desk.nimber(-1));
        due("nimber(least)", INDEX, () -> desk.nimber(LEAST));
    }

    private void nimberTooLarge() {
        code(3, 3);
        for (int n : new int[] {0, 1, 5, 1999, 2000}) {
            desk.analyse(n);
            due("nimber(" + n + ")", n % 3, () -> desk.nimber(n));
            due("nimber(" + (n + 1) + ")", INDEX, () -> desk.nimber(n + 1));
            due("nimber(greatest)", INDEX, () -> desk.nimber(GREATEST));
        }
    }

    private void frequencies() {
        holds("How many heaps of the table (that of 0, too) have a nimber", this::frequencyOfAll);
        holds("frequency() of what no heap has", this::frequencyOfNone);
    }

    private void frequencyOfAll() {
        due("frequency(0) of heap 0 alone", 1, () -> desk.frequency(0));
        desk.analyse(5);
        due("frequency(0) of six heaps", 6, () -> desk.frequency(0));
        code(7, 7);
        desk.analyse(11);
        int[] often = {1, 3, 3, 2, 2, 0, 1, 0};
        for (int i = 0; i < often.length; i++) {
            int nimber = i;
            due("frequency(" + nimber + ")", often[nimber], () -> desk.frequency(nimber));
        }
        desk.analyse(10);
        due("frequency(6) of ten heaps", 0, () -> desk.frequency(6));
        due("frequency(2) of ten heaps", 3, () -> desk.frequency(2));
        desk.analyse(9);
        due("frequency(2) of nine heaps", 2, () -> desk.frequency(2));
    }

    private void frequencyOfNone() {
        code(7, 7);
        desk.analyse(2000);
        for (int nimber : new int[] {-1, 9, 64, 2001, 2048, LEAST, GREATEST}) {
            due("frequency(" + nimber + ")", 0, () -> desk.frequency(nimber));
        }
    }

    /** Not proved by the table up to the heap before n, but by that up to n. */
    private void provedFrom(String what, int n, int period, int preperiod) {
        desk.analyse(n - 1);
        periodIs("of " + what + " up to " + (n - 1), -1, -1);
        desk.analyse(n);
        periodIs("of " + what + " up to " + n, period, preperiod);
        desk.analyse(n - 1);
        periodIs("of " + what + " up to " + (n - 1) + " again", -1, -1);
    }

    private void periodsOfCodes() {
        holds("below 2 * n + p + k (for codes ...), (m + p up to its end)", this::codeProved);
        holds("k being the last place with a digit above 0", this::lastPlaceOfCode);
        holds("k being ... 0 without one", () -> provedFrom("no digits", 1, 1, 0));
        holds("for codes without 8 in any digit", this::noPeriodWithEight);
        holds("(numbers and entries have no part in a code's period)", this::periodOfCodeAlone);
        holds("p is 1 or more", this::periodOfOne);
        holds("The least period that is proved with any preperiod, or the least preperiod with it", this::leastPeriod);
        holds("period(): NONE when there is none", this::noPeriod);
        holds("period(): IndexOutOfBoundsException, for another what", this::periodOfOtherWhat);
    }

    private void codeProved() {
        // The last pair ends at 2 * n + 2 * p + k - 1.
        code(3);
        provedFrom("0.3", 4, 2, 0);
        code(3, 3);
        provedFrom("0.33", 7, 3, 0);
        code(7, 7);
        provedFrom("Kayles", 167, 12, 71);
        code(0, 7);
        provedFrom("Dawson's Kayles", 175, 34, 53);
    }

    private void lastPlaceOfCode() {
        // All but heap 12 have 0: n = 13, p = 1, k = 12.
        codeAt(12, 1);
        provedFrom("1 at place 12", 39, 1, 13);
        codeAt(11, 1);
        provedFrom("1 at place 11", 36, 1, 12);
        code(3);
        desk.digit(12, 1);
        desk.digit(12, 0);
        provedFrom("0.3, place 12 being 0 again", 4, 2, 0);
        // A digit of 4 alone counts too, though it leaves the nimbers of small heaps at 0.
        codeAt(12, 4);
        desk.analyse(12);
        periodIs("of 4 at place 12, up to 12", -1, -1);
    }

    private void noPeriodWithEight() {
        for (int place : new int[] {1, 12}) {
            for (int digit = 8; digit <= 15; digit++) {
                codeAt(place, digit);
                desk.analyse(200);
                periodIs("of " + digit + " at place " + place, -1, -1);
            }
        }
        code(3);
        desk.digit(12, 8);
        desk.analyse(14);
        periodIs("of 0.3 with 8 at place 12", -1, -1);
        desk.digit(12, 3);
        provedFrom("0.3 with 3 at place 12", 37, 13, 0);
    }

    private void periodOfCodeAlone() {
        code(3);
        desk.number(64, true);
        desk.entry(64, 1, 1, true);
        provedFrom("0.3", 4, 2, 0);
    }

    private void periodOfOne() {
        desk.analyse(2000);
        periodIs("of all nimbers 0", 1, 0);
        code(1);
        // 0 1 0 0 0 ..: n = 2, p = 1, k = 1.
        provedFrom("1 at place 1", 6, 1, 2);
    }

    private void leastPeriod() {
        code(3);
        desk.analyse(2000);
        periodIs("of 0.3 up to 2000, not one of its multiples", 2, 0);
        code(7, 7);
        desk.analyse(2000);
        periodIs("of Kayles up to 2000", 12, 71);
        code(1);
        desk.analyse(100);
        periodIs("of 0.1 up to 100", 1, 2);
    }

    private void noPeriod() {
        due("period(0) of a new object", -1, () -> desk.period(0));
        due("period(1) of a new object", -1, () -> desk.period(1));
        code(7, 7);
        desk.analyse(100);
        periodIs("of Kayles up to 100", -1, -1);
        desk.analyse(200);
        periodIs("of Kayles up to 200", 12, 71);
        desk.digit(2, 7);
        periodIs("of Kayles, the table being gone", -1, -1);
    }

    private void periodOfOtherWhat() {
        for (int kind : KINDS) {
            desk.kind(kind);
            desk.analyse(5);
            for (int what : new int[] {-1, 2, 3, LEAST, GREATEST}) {
                due("period(" + what + ") with kind " + kind, INDEX, () -> desk.period(what));
            }
        }
        codeAt(1, 8);
        due("period(2) of a code with 8", INDEX, () -> desk.period(2));
    }

    private void periodsOfSubtraction() {
        holds("below n + k (SUBTRACTION ...), (m + p up to its end)", this::subtractionProved);
        holds("k the greatest number", this::greatestNumberOfAll);
        holds("k ... 0 without one", this::noNumbers);
        holds("(digits, an 8 among them, have no part in the period of SUBTRACTION)", this::periodOfNumbersAlone);
    }

    private void subtractionProved() {
        // The last pair ends at n + k + p - 1.
        subtraction(1);
        provedFrom("1", 2, 2, 0);
        subtraction(1, 3, 4);
        provedFrom("1, 3, 4", 10, 7, 0);
        subtraction(2, 4, 7);
        provedFrom("2, 4, 7", 17, 3, 8);
    }

    private void greatestNumberOfAll() {
        subtraction(64);
        provedFrom("64", 191, 128, 0);
        subtraction(1, 64);
        desk.number(64, false);
        provedFrom("1, 64 being none any more", 2, 2, 0);
    }

    private void noNumbers() {
        rule(SUBTRACTION);
        for (int n : new int[] {1, 2, 9, 2000}) {
            desk.analyse(n);
            periodIs("of no numbers up to " + n, 1, 0);
        }
    }

    private void periodOfNumbersAlone() {
        subtraction(1);
        desk.digit(12, 15);
        desk.entry(64, 1, 1, true);
        provedFrom("1", 2, 2, 0);
    }

    private void periodsOfOthers() {
        holds("period(): NONE ... for other rules", () -> {
            for (int kind : new int[] {SPLIT, UNLIKE, TABLE}) {
                desk.kind(kind);
                for (int n : new int[] {0, 1, 100, 2000}) {
                    desk.analyse(n);
                    periodIs("of kind " + kind + " up to " + n, -1, -1);
                }
            }
        });
    }

    private void counts() {
        holds("count(): The greatest heap of the table (0), the greatest nimber (1)", () -> {
            code(7, 7);
            int[][] rows = {{0, 0}, {10, 4}, {11, 6}, {12, 6}, {5, 4}, {2000, 8}, {1, 1}};
            for (int[] row : rows) {
                desk.analyse(row[0]);
                due("count(0) behind analyse(" + row[0] + ")", row[0], () -> desk.count(0));
                due("count(1) behind analyse(" + row[0] + ")", row[1], () -> desk.count(1));
            }
        });
    }
}
