/** Edges of promises 10 and 11 and of the terms they stand on: what each rule allows, and the order of options. */
public final class OptionEdgesTest extends Cases {
    private OptionEdgesTest() {
        super("edges of options");
    }

    public static void main(String[] args) {
        OptionEdgesTest test = new OptionEdgesTest();
        test.codes();
        test.otherRules();
        test.order();
        test.counting();
        test.countingWithEight();
        test.asking();
        test.end();
    }

    private void codes() {
        holds("k counters may be taken, if the digit at k tells so", this::everyDigitAtSomePlaces);
        holds("with 1 ... when no heap is left", () -> optionsAtPlace(1, "", "0+0+0", "", "", ""));
        holds("with 2 when one heap is", () -> optionsAtPlace(2, "", "", "1+0+0", "2+0+0", "3+0+0"));
        holds("with 4 two", () -> optionsAtPlace(4, "", "", "", "1+1+0", "1+2+0"));
        holds("with 8 three", () -> optionsAtPlace(8, "", "", "", "", "1+1+1"));
        holds("of all that are left, in any way: two heaps", this::twoInAnyWay);
        holds("of all that are left, in any way: three heaps", this::threeInAnyWay);
        holds("CODE, with DIGITS ... at places 1 .. 12: the last place", this::lastPlace);
        holds("CODE: the greatest heap", this::greatestHeapOfCode);
    }

    /** What is due for heaps of one less than a place, of as many as it, and of one, two, three more. */
    private void optionsAtPlace(int digit, String... due) {
        for (int place : new int[] {1, 2, 7, 12}) {
            codeAt(place, digit);
            for (int more = -1; more <= 3; more++) {
                int heap = place + more;
                due("options of " + heap + " with " + digit + " at place " + place, due[more + 1],
                        () -> optionsOf(heap));
            }
        }
    }

    private void everyDigitAtSomePlaces() {
        for (int digit = 0; digit <= 15; digit++) {
            String one = (digit & 2) != 0 ? "%d+0+0 " : "";
            String two = (digit & 4) != 0 ? "1+%d+0 " : "";
            String three = (digit & 8) != 0 ? "1+1+%d " : "";
            optionsAtPlace(digit, "",
                    (digit & 1) != 0 ? "0+0+0" : "",
                    String.format(one, 1).trim(),
                    (String.format(one, 2) + String.format(two, 1)).trim(),
                    (String.format(one, 3) + String.format(two, 2) + String.format(three, 1)).trim());
        }
    }

    private void twoInAnyWay() {
        codeAt(2, 4);
        due("9 is left", "1+8+0 2+7+0 3+6+0 4+5+0", () -> optionsOf(11));
        due("10 is left", "1+9+0 2+8+0 3+7+0 4+6+0 5+5+0", () -> optionsOf(12));
    }

    private void threeInAnyWay() {
        codeAt(1, 8);
        due("6 is left", "1+1+4 1+2+3 2+2+2", () -> optionsOf(7));
        due("7 is left", "1+1+5 1+2+4 1+3+3 2+2+3", () -> optionsOf(8));
        due("9 is left", "1+1+7 1+2+6 1+3+5 1+4+4 2+2+5 2+3+4 3+3+3", () -> optionsOf(10));
        int[] ways = {0, 0, 0, 0, 1, 1, 2, 3, 4, 5, 7, 8, 10, 12, 14, 16};
        for (int i = 0; i < ways.length; i++) {
            int heap = i;
            due("options(" + heap + ")", ways[heap], () -> desk.options(heap));
        }
        due("options(60)", 290, () -> desk.options(60));
        due("the first of 60", "1+1+57", () -> optionAt(60, 0));
        due("the last of 60", "19+20+20", () -> optionAt(60, 289));
    }

    private void lastPlace() {
        codeAt(12, 3);
        due("options of 11", 0, () -> desk.options(11));
        due("options of 12", "0+0+0", () -> optionsOf(12));
        due("options of 13", "1+0+0", () -> optionsOf(13));
        due("options of 2000", "1988+0+0", () -> optionsOf(2000));
    }

    private void greatestHeapOfCode() {
        code(7, 7, 7, 7, 7, 7, 7, 7, 7, 7, 7, 7);
        due("options(2000)", 11970, () -> desk.options(2000));
        due("the first one", "1999+0+0", () -> optionAt(2000, 0));
        due("the next one", "1+1998+0", () -> optionAt(2000, 1));
        due("the last one", "994+994+0", () -> optionAt(2000, 11969));
        due("one behind it", INDEX, () -> desk.option(2000, 11970, 0));
    }

    private void otherRules() {
        holds("SUBTRACTION: what is left is one heap, or none", this::oneHeapOrNone);
        holds("SUBTRACTION, with NUMBERS from 1 to 64", this::allNumbers);
        holds("SPLIT: a heap becomes two, no counters taken", this::split);
        holds("UNLIKE: likewise two that are not of one size", this::unlike);
        holds("TABLE: from a heap of 1 to 64 counters", this::tableFrom);
        holds("TABLE: to none, one or two smaller ones", this::tableTo);
        holds("(only the rules of the present kind count)", this::onlyOneKind);
    }

    private void oneHeapOrNone() {
        subtraction(3, 64);
        due("fewer than the number", "", () -> optionsOf(2));
        due("as many", "0+0+0", () -> optionsOf(3));
        due("one more", "1+0+0", () -> optionsOf(4));
        due("63", "60+0+0", () -> optionsOf(63));
        due("64", "61+0+0 0+0+0", () -> optionsOf(64));
        due("65", "62+0+0 1+0+0", () -> optionsOf(65));
        due("2000", "1997+0+0 1936+0+0", () -> optionsOf(2000));
    }

    private void allNumbers() {
        desk.kind(SUBTRACTION);
        for (int number = 1; number <= 64; number++) {
            desk.number(number, true);
        }
        due("options(1)", 1, () -> desk.options(1));
        due("options(63)", 63, () -> desk.options(63));
        due("options(64)", 64, () -> desk.options(64));
        due("options(65)", 64, () -> desk.options(65));
        due("options(2000)", 64, () -> desk.options(2000));
        due("the first of 2000", "1999+0+0", () -> optionAt(2000, 0));
        due("the last of 2000", "1936+0+0", () -> optionAt(2000, 63));
        due("the last of 64", "0+0+0", () -> optionAt(64, 63));
        due("the last of 65", "1+0+0", () -> optionAt(65, 63));
    }

    private void split() {
        desk.kind(SPLIT);
        due("1", "", () -> optionsOf(1));
        due("2", "1+1+0", () -> optionsOf(2));
        due("3", "1+2+0", () -> optionsOf(3));
        due("4", "1+3+0 2+2+0", () -> optionsOf(4));
        due("5", "1+4+0 2+3+0", () -> optionsOf(5));
        due("options(1999)", 999, () -> desk.options(1999));
        due("options(2000)", 1000, () -> desk.options(2000));
        due("the last of 1999", "999+1000+0", () -> optionAt(1999, 998));
        due("the last of 2000", "1000+1000+0", () -> optionAt(2000, 999));
    }

    private void unlike() {
        desk.kind(UNLIKE);
        due("1", "", () -> optionsOf(1));
        due("2", "", () -> optionsOf(2));
        due("3", "1+2+0", () -> optionsOf(3));
        due("4", "1+3+0", () -> optionsOf(4));
        due("5", "1+4+0 2+3+0", () -> optionsOf(5));
        due("options(1999)", 999, () -> desk.options(1999));
        due("options(2000)", 999, () -> desk.options(2000));
        due("the last of 1999", "999+1000+0", () -> optionAt(1999, 998));
        due("the last of 2000", "999+1001+0", () -> optionAt(2000, 998));
    }

    private void tableFrom() {
        table(new int[] {1, 0, 0}, new int[] {64, 63, 0});
        due("1", "0+0+0", () -> optionsOf(1));
        due("63", "", () -> optionsOf(63));
        due("64", "63+0+0", () -> optionsOf(64));
        due("65", "", () -> optionsOf(65));
        due("2000", "", () -> optionsOf(2000));
    }

    private void tableTo() {
        table(new int[] {64, 0, 0}, new int[] {64, 1, 0}, new int[] {64, 63, 0}, new int[] {64, 1, 1},
                new int[] {64, 63, 1}, new int[] {64, 32, 32}, new int[] {64, 32, 31});
        due("64", "1+63+0 32+32+0 63+0+0 31+32+0 1+1+0 1+0+0 0+0+0", () -> optionsOf(64));
    }

    private void onlyOneKind() {
        desk.digit(1, 2);
        desk.number(2, true);
        desk.entry(5, 1, 1, true);
        String[] due = {"4+0+0", "3+0+0", "1+4+0 2+3+0", "1+4+0 2+3+0", "1+1+0"};
        for (int kind : KINDS) {
            desk.kind(kind);
            due("options of 5 with kind " + kind, due[kind], () -> optionsOf(5));
        }
    }

    private void order() {
        holds("those with more counters in all first", this::moreCountersFirst);
        holds("of these those with fewer heaps", this::fewerHeapsFirst);
        holds("of these by their heaps ...: the lower one where two differ first", this::lowerHeapsFirst);
        holds("each once", this::eachOnce);
    }

    private void moreCountersFirst() {
        code(8, 4, 2);
        due("three heaps, two, one", "1+1+3 1+2+2 1+3+0 2+2+0 3+0+0", () -> optionsOf(6));
        table(new int[] {7, 0, 0}, new int[] {7, 6, 0}, new int[] {7, 2, 2}, new int[] {7, 3, 0}, new int[] {7, 4, 1});
        due("entries", "6+0+0 1+4+0 2+2+0 3+0+0 0+0+0", () -> optionsOf(7));
    }

    private void fewerHeapsFirst() {
        code(15, 15);
        due("options of 5", "4+0+0 1+3+0 2+2+0 1+1+2 3+0+0 1+2+0 1+1+1", () -> optionsOf(5));
        due("options of 2", "1+0+0 0+0+0", () -> optionsOf(2));
        table(new int[] {7, 2, 3}, new int[] {7, 5, 0}, new int[] {7, 1, 4});
        due("entries", "5+0+0 1+4+0 2+3+0", () -> optionsOf(7));
    }

    private void lowerHeapsFirst() {
        codeAt(3, 8);
        due("options of 12", "1+1+7 1+2+6 1+3+5 1+4+4 2+2+5 2+3+4 3+3+3", () -> optionsOf(12));
        table(new int[] {9, 4, 4}, new int[] {9, 7, 1}, new int[] {9, 5, 3}, new int[] {9, 2, 6});
        due("entries", "1+7+0 2+6+0 3+5+0 4+4+0", () -> optionsOf(9));
    }

    private void eachOnce() {
        code(4);
        due("1+2 and 2+1", "1+2+0", () -> optionsOf(4));
        table(new int[] {4, 1, 2}, new int[] {4, 2, 1});
        due("an entry told twice", "1+2+0", () -> optionsOf(4));
    }

    private void counting() {
        holds("options(): when it is not 0 .. 2000: too small", () -> optionsRefused(-1, LEAST));
        holds("options(): when it is not 0 .. 2000: too large", () -> optionsRefused(2001, GREATEST));
        holds("A MOVE goes from one HEAP of h counters (1 or more): none from 0", this::optionsOfNothing);
        holds("(options() asks for no table)", this::optionsWithoutTable);
    }

    private void optionsRefused(int... heaps) {
        for (int kind : KINDS) {
            desk.kind(kind);
            for (int heap : heaps) {
                due("options(" + heap + ") with kind " + kind, ARGUMENT, () -> desk.options(heap));
                due("option(" + heap + ", 0, 0) with kind " + kind, ARGUMENT, () -> desk.option(heap, 0, 0));
            }
        }
    }

    private void optionsOfNothing() {
        code(15);
        desk.number(1, true);
        for (int kind : KINDS) {
            desk.kind(kind);
            due("options(0) with kind " + kind, 0, () -> desk.options(0));
            due("option(0, 0, 0) with kind " + kind, INDEX, () -> desk.option(0, 0, 0));
        }
    }

    private void optionsWithoutTable() {
        code(3);
        due("options(2000)", 1, () -> desk.options(2000));
        due("option(2000, 0, 0)", 1999, () -> desk.option(2000, 0, 0));
        due("count(0)", 0, () -> desk.count(0));
    }

    private void countingWithEight() {
        holds("options(): (with CODE and an 8 in a digit 60)", this::eightInAnyDigit);
        holds("options(): (an 8 in a digit, but another kind)", this::eightWithOtherKinds);
        holds("options(): (an 8 in a digit no longer)", this::eightNoLonger);
    }

    private void eightInAnyDigit() {
        for (int place : new int[] {1, 12}) {
            for (int digit = 0; digit <= 15; digit++) {
                codeAt(place, digit);
                boolean any = digit > 1;
                String with = " with " + digit + " at place " + place;
                due("options(60)" + with, any, () -> desk.options(60) > 0);
                due("options(61)" + with, digit < 8 ? any : ARGUMENT, () -> desk.options(61) > 0);
                due("options(2000)" + with, digit < 8 ? any : ARGUMENT, () -> desk.options(2000) > 0);
                due("option(61, 0, 0)" + with, digit < 8 ? any ? any : INDEX : ARGUMENT,
                        () -> desk.option(61, 0, 0) > 0);
            }
        }
    }

    private void eightWithOtherKinds() {
        codeAt(12, 8);
        desk.number(1, true);
        int[] due = {0, 1, 1000, 999, 0};
        for (int kind : new int[] {SUBTRACTION, SPLIT, UNLIKE, TABLE}) {
            desk.kind(kind);
            due("options(2000) with kind " + kind, due[kind], () -> desk.options(2000));
        }
        desk.kind(CODE);
        due("options(61) with CODE again", ARGUMENT, () -> desk.options(61));
    }

    private void eightNoLonger() {
        codeAt(5, 10);
        due("options(61)", ARGUMENT, () -> desk.options(61));
        desk.digit(5, 2);
        due("options(61) behind digit(5, 2)", "56+0+0", () -> optionsOf(61));
    }

    private void asking() {
        holds("heap which (0 .. 2) in rising order, 0 when there is none (heaps first)", this::heapsFirst);
        holds("option(): when there is no such option: too small", () -> noSuchOption(-1, LEAST));
        holds("option(): when there is no such option: too large", () -> noSuchOption(4, 5, GREATEST));
        holds("option(): when there is no such ... which", this::noSuchWhich);
    }

    private void heapsFirst() {
        code(15);
        due("none", "0+0+0", () -> optionAt(1, 0));
        due("one", "1+0+0", () -> optionAt(2, 0));
        due("two alike", "1+1+0", () -> optionAt(3, 1));
        due("two", "1+2+0", () -> optionAt(4, 1));
        due("three alike", "1+1+1", () -> optionAt(4, 2));
        due("three", "1+2+3", () -> optionAt(7, 5));
    }

    private void noSuchOption(int... numbers) {
        // 4, 1+3, 2+2, 1+1+2.
        code(15);
        due("option(5, 3, 2)", 2, () -> desk.option(5, 3, 2));
        for (int k : numbers) {
            for (int which = 0; which <= 2; which++) {
                int part = which;
                due("option(5, " + k + ", " + part + ")", INDEX, () -> desk.option(5, k, part));
            }
        }
    }

    private void noSuchWhich() {
        code(15);
        for (int which : new int[] {-1, 3, 4, LEAST, GREATEST}) {
            due("option(5, 0, " + which + ")", INDEX, () -> desk.option(5, 0, which));
            due("option(5, 3, " + which + ")", INDEX, () -> desk.option(5, 3, which));
        }
    }
}
