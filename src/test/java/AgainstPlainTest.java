/** Long runs of calls, the same on the desk and on the plain form of the document: all answers must agree. */
public final class AgainstPlainTest {
    private static final int RUNS = 300;
    /** So many nimbers of a table are asked for, beside what it takes to tell the rules and to ask for more. */
    private static final int NIMBERS_OF_ONE_DESK = 400;

    private final Check check = new Check("against the plain form");
    private CountedDesk desk;
    private Plain plain;
    private int run;
    private int calls;
    private int greatestHeap;
    private long state = 20261115L;

    public static void main(String[] args) {
        AgainstPlainTest test = new AgainstPlainTest();
        for (int run = 0; run < RUNS && !test.check.hasWrong(); run++) {
            test.runOf(run);
        }
        test.largeTables();
        test.allQuotients();
        test.check.end();
    }

    /** From 0 to n - 1; the same on every machine. */
    private int below(int n) {
        state = state * 6364136223846793005L + 1442695040888963407L;
        return (int) ((state >>> 33) % n);
    }

    private int from(int low, int high) {
        return low + below(high - low + 1);
    }

    private void both(String call, Check.Call ofDesk, Check.Call ofPlain) {
        if (desk.callsLeft() == 0) {
            return;
        }
        calls++;
        check.due("run " + run + ", call " + calls + ": " + call, Check.outcome(ofPlain), ofDesk);
    }

    private void runOf(int number) {
        run = number;
        calls = 0;
        desk = new CountedDesk();
        plain = new Plain();
        greatestHeap = number % 3 == 0 ? 3 : number % 3 == 1 ? 8 : 70;
        tellKind(number % 5);
        while (desk.callsLeft() > 0 && !check.hasWrong()) {
            if (below(12) == 0) {
                tell();
            } else {
                ask();
            }
        }
    }

    private void tellKind(int kind) {
        both("kind(" + kind + ")", () -> desk.kind(kind), () -> plain.kind(kind));
    }

    private void tellDigit(int place, int digit) {
        both("digit(" + place + ", " + digit + ")", () -> desk.digit(place, digit), () -> plain.digit(place, digit));
    }

    private void tellNumber(int number, boolean is) {
        both("number(" + number + ", " + is + ")", () -> desk.number(number, is), () -> plain.number(number, is));
    }

    private void tellEntry(int from, int to, int other, boolean is) {
        both("entry(" + from + ", " + to + ", " + other + ", " + is + ")",
                () -> desk.entry(from, to, other, is), () -> plain.entry(from, to, other, is));
    }

    private void tell() {
        int rounds = from(1, 6);
        for (int i = 0; i < rounds; i++) {
            switch (below(8)) {
                case 0:
                    tellKind(from(-1, 5));
                    break;
                case 1:
                case 2:
                    tellDigit(from(0, 13), below(5) == 0 ? from(-1, 16) : from(0, 7));
                    break;
                case 3:
                    tellNumber(below(4) == 0 ? from(0, 65) : from(1, 9), below(4) > 0);
                    break;
                default:
                    int from = below(6) == 0 ? from(0, 65) : from(1, Math.min(greatestHeap, 16));
                    tellEntry(from, from(-1, from), from(0, Math.max(1, from / 2)), below(5) > 0);
                    break;
            }
        }
    }

    private void ask() {
        switch (below(10)) {
            case 0:
                askTable();
                break;
            case 1:
                askOptions();
                break;
            case 2:
            case 3:
                putHeaps();
                break;
            case 4:
            case 5:
                askMoves();
                break;
            case 6:
                both("undo()", () -> desk.undo(), () -> plain.undo());
                break;
            case 7:
                both("lastLoses()", () -> desk.lastLoses(), () -> plain.lastLoses());
                break;
            case 8:
                askQuotient();
                break;
            default:
                int what = from(-1, 5);
                both("count(" + what + ")", () -> desk.count(what), () -> plain.count(what));
                both("value()", () -> desk.value(), () -> plain.value());
                break;
        }
    }

    private void askTable() {
        int n = below(100) == 0 ? from(198, 202) : below(8) == 0 ? from(-1, 90) : from(0, greatestHeap + 5);
        both("analyse(" + n + ")", () -> desk.analyse(n), () -> plain.analyse(n));
        int heap = from(-1, n + 1);
        both("nimber(" + heap + ")", () -> desk.nimber(heap), () -> plain.nimber(heap));
        int nimber = from(-1, 4);
        both("frequency(" + nimber + ")", () -> desk.frequency(nimber), () -> plain.frequency(nimber));
        int what = below(9) == 0 ? from(-1, 2) : from(0, 1);
        both("period(" + what + ")", () -> desk.period(what), () -> plain.period(what));
    }

    private void askOptions() {
        int heap = below(9) == 0 ? from(-1, 61) : from(0, Math.min(greatestHeap + 1, 40));
        both("options(" + heap + ")", () -> desk.options(heap), () -> plain.options(heap));
        Object all = Check.outcome(() -> plain.options(heap));
        int k = from(-1, all instanceof Integer ? (Integer) all : 1);
        for (int which = -1; which <= 3; which++) {
            int part = which;
            both("option(" + heap + ", " + k + ", " + part + ")",
                    () -> desk.option(heap, k, part), () -> plain.option(heap, k, part));
        }
    }

    private void putHeaps() {
        int rounds = from(1, 3);
        for (int i = 0; i < rounds; i++) {
            int place = below(9) == 0 ? from(-1, 16) : from(0, 6);
            int size = below(20) == 0 ? from(-1, 62) : below(3) == 0 ? 0 : from(0, greatestHeap);
            both("heap(" + place + ", " + size + ")", () -> desk.heap(place, size), () -> plain.heap(place, size));
        }
    }

    private void askMoves() {
        both("moves()", () -> desk.moves(), () -> plain.moves());
        Object all = Check.outcome(() -> plain.moves());
        int moves = all instanceof Integer ? (Integer) all : 1;
        int move = below(7) == 0 ? from(-1, moves) : below(Math.max(1, moves));
        int what = below(7) == 0 ? from(-1, 4) : from(0, 3);
        both("move(" + move + ", " + what + ")", () -> desk.move(move, what), () -> plain.move(move, what));
        both("wins(" + move + ")", () -> desk.wins(move), () -> plain.wins(move));
        both("play(" + move + ")", () -> desk.play(move), () -> plain.play(move));
        for (int place = -1; place <= 16; place += from(1, 4)) {
            int there = place;
            both("at(" + there + ")", () -> desk.at(there), () -> plain.at(there));
        }
    }

    private void askQuotient() {
        if (below(3) == 0) {
            int size = below(6) == 0 ? from(0, 4) : from(1, 3);
            both("quotient(" + size + ")", () -> desk.quotient(size), () -> plain.quotient(size));
        }
        both("classOf()", () -> desk.classOf(), () -> plain.classOf());
        int c = from(-1, 5);
        int what = from(-1, 5);
        both("ofClass(" + c + ", " + what + ")", () -> desk.ofClass(c, what), () -> plain.ofClass(c, what));
    }

    private void largeTables() {
        int[][] codes = {{7, 7}, {0, 7}, {3, 3, 3}, {0, 5, 2, 4}, {7, 7, 7, 7}, {1, 3, 7}};
        for (int[] code : codes) {
            compareTable(400, () -> tellCode(code));
        }
        int[] eights = {10, 15, 10, 15, 10, 15, 10, 15, 10, 15, 10, 15};
        compareTable(120, () -> tellCode(eights));
        int[][] sets = {{2}, {2, 5}, {2, 5, 11}, {2, 5, 11, 17}, {2, 5, 11, 17, 64}};
        for (int[] numbers : sets) {
            compareTable(2000, () -> tellNumbers(numbers));
        }
        compareTable(500, () -> tellKind(2));
        compareTable(500, () -> tellKind(3));
    }

    private void tellCode(int[] digits) {
        for (int place = 1; place <= digits.length; place++) {
            tellDigit(place, digits[place - 1]);
        }
    }

    private void tellNumbers(int[] numbers) {
        tellKind(1);
        for (int number : numbers) {
            tellNumber(number, true);
        }
    }

    /** A quotient has to do with heaps of 1 to 3 alone: there are 512 tables for these, and no other rules. */
    private void allQuotients() {
        int[][] entries = {{1, 0, 0}, {2, 0, 0}, {2, 0, 1}, {2, 1, 1}, {3, 0, 0}, {3, 0, 1}, {3, 0, 2}, {3, 1, 1},
            {3, 1, 2}};
        for (int rules = 0; rules < 512; rules++) {
            run = RUNS + rules;
            calls = 0;
            desk = new CountedDesk();
            plain = new Plain();
            tellKind(4);
            for (int i = 0; i < entries.length; i++) {
                tellEntry(entries[i][0], entries[i][1], entries[i][2], (rules >> i & 1) == 1);
            }
            for (int size = 1; size <= 3; size++) {
                compareQuotient(size);
            }
        }
    }

    private void compareQuotient(int size) {
        both("quotient(" + size + ")", () -> desk.quotient(size), () -> plain.quotient(size));
        int classes = plain.count(4);
        for (int i = 0; i < 5 * classes; i++) {
            int c = i / 5;
            int what = i % 5;
            both("ofClass(" + c + ", " + what + ")", () -> desk.ofClass(c, what), () -> plain.ofClass(c, what));
        }
    }

    private void compareTable(int n, Runnable tellRules) {
        for (int first = 0; first <= n; first += NIMBERS_OF_ONE_DESK) {
            desk = new CountedDesk();
            plain = new Plain();
            tellRules.run();
            both("analyse(" + n + ")", () -> desk.analyse(n), () -> plain.analyse(n));
            for (int size = first; size <= n && size < first + NIMBERS_OF_ONE_DESK; size++) {
                int heap = size;
                both("nimber(" + heap + ")", () -> desk.nimber(heap), () -> plain.nimber(heap));
            }
        }
        both("period(0)", () -> desk.period(0), () -> plain.period(0));
        both("period(1)", () -> desk.period(1), () -> plain.period(1));
    }
}
