import java.util.Arrays;

/** A desk for games with heaps of counters, as its document promises them. */
public final class HeapDesk {
    public static final int NONE = -1;

    private static final int CODE = 0;
    private static final int SUBTRACTION = 1;
    private static final int SPLIT = 2;
    private static final int UNLIKE = 3;
    private static final int TABLE = 4;

    private static final int LAST_DIGIT_PLACE = 12;
    private static final int GREATEST_DIGIT = 15;
    private static final int GREATEST_NUMBER = 64;
    private static final int GREATEST_FROM = 64;
    private static final int GREATEST_HEAP = 2000;
    private static final int PLACES = 16;
    private static final int MOST_CALLS = 512;
    private static final int MOST_COUNTERS_TO_LOSE = 16;

    private final Rules rules;
    private final Choice choice;
    private final Nimbers nimbers;
    private final Sum sum;
    private final LastLoses fortunes;
    private final Quotient classes;

    public HeapDesk() {
        rules = new Rules();
        choice = new Choice();
        nimbers = new Nimbers();
        sum = new Sum();
        fortunes = new LastLoses();
        classes = new Quotient();
    }

    public int kind(int kind) throws IllegalArgumentException {
        if (kind < CODE || kind > TABLE) {
            throw new IllegalArgumentException("no such kind");
        }
        int before = rules.kind;
        rules.kind = kind;
        forgetWhatRulesGave();
        return before;
    }

    public int digit(int place, int digit) throws IndexOutOfBoundsException, IllegalArgumentException {
        if (place < 1 || place > LAST_DIGIT_PLACE) {
            throw new IndexOutOfBoundsException("no such place of a digit");
        }
        if (digit < 0 || digit > GREATEST_DIGIT) {
            throw new IllegalArgumentException("no such digit");
        }
        int before = rules.digits[place];
        rules.digits[place] = digit;
        forgetWhatRulesGave();
        return before;
    }

    public boolean number(int number, boolean is) throws IllegalArgumentException {
        if (number < 1 || number > GREATEST_NUMBER) {
            throw new IllegalArgumentException("no such number");
        }
        boolean before = rules.numbers[number];
        rules.numbers[number] = is;
        forgetWhatRulesGave();
        return before;
    }

    public boolean entry(int from, int to, int other, boolean is) throws IllegalArgumentException {
        if (!isEntry(from, to, other)) {
            throw new IllegalArgumentException("no such entry");
        }
        int low = Math.min(to, other);
        int high = Math.max(to, other);
        boolean before = rules.hasEntry(from, low, high);
        rules.setEntry(from, low, high, is);
        forgetWhatRulesGave();
        return before;
    }

    public int analyse(int n) throws IllegalArgumentException {
        if (n < 0 || n > rules.greatestToAnalyse()) {
            throw new IllegalArgumentException("no heap that can be analysed");
        }
        nimbers.reach(n, rules);
        return nimbers.greatest;
    }

    public int nimber(int heap) throws IndexOutOfBoundsException {
        if (!nimbers.has(heap)) {
            throw new IndexOutOfBoundsException("the table has no such heap");
        }
        return nimbers.of[heap];
    }

    public int frequency(int nimber) {
        return nimbers.howOften(nimber);
    }

    public int period(int what) throws IndexOutOfBoundsException {
        if (what < 0 || what > 1) {
            throw new IndexOutOfBoundsException("neither period nor preperiod");
        }
        nimbers.seekPeriod(rules);
        return what == 0 ? nimbers.period : nimbers.preperiod;
    }

    public int options(int heap) throws IllegalArgumentException {
        requireOptions(heap);
        return rules.optionCount(heap);
    }

    public int option(int heap, int k, int which) throws IllegalArgumentException, IndexOutOfBoundsException {
        requireOptions(heap);
        if (which < 0 || which > 2 || !rules.choose(heap, k, choice)) {
            throw new IndexOutOfBoundsException("no such option, or no such heap of it");
        }
        return choice.part(which);
    }

    public int heap(int place, int size) throws IndexOutOfBoundsException, IllegalArgumentException {
        requirePlace(place);
        if (size < 0 || size > GREATEST_HEAP) {
            throw new IllegalArgumentException("no such heap");
        }
        int before = sum.heaps[place];
        sum.heaps[place] = size;
        sum.played = 0;
        return before;
    }

    public int at(int place) throws IndexOutOfBoundsException {
        requirePlace(place);
        return sum.heaps[place];
    }

    public int moves() throws UnsupportedOperationException {
        requirePlayableSum();
        int moves = 0;
        for (int place = 0; place < PLACES; place++) {
            moves += rules.optionCount(sum.heaps[place]);
        }
        return moves;
    }

    public int move(int move, int what) throws UnsupportedOperationException, IndexOutOfBoundsException {
        chooseMove(move);
        if (what < 0 || what > 3) {
            throw new IndexOutOfBoundsException("nothing that a move has");
        }
        return what == 0 ? choice.place : choice.part(what - 1);
    }

    public int play(int move)
            throws UnsupportedOperationException, IndexOutOfBoundsException, IllegalStateException {
        chooseMove(move);
        if (!sum.make(choice)) {
            throw new IllegalStateException("no room for the heaps of the move");
        }
        return sum.played;
    }

    public boolean wins(int move)
            throws UnsupportedOperationException, IndexOutOfBoundsException, IllegalStateException {
        chooseMove(move);
        // A move's heaps are smaller than the one it is made from: the table that has all heaps
        // before the move has all behind it.
        int before = nimberOfSum();
        int gone = nimbers.of[sum.heaps[choice.place]];
        return (before ^ gone ^ nimbers.ofChoice(choice)) == 0;
    }

    public int undo() throws IllegalStateException {
        if (sum.played == 0) {
            throw new IllegalStateException("no move was played");
        }
        sum.takeBack();
        return sum.played;
    }

    public int value() throws IllegalStateException {
        return nimberOfSum();
    }

    public boolean lastLoses() throws UnsupportedOperationException {
        if (sum.counters() > MOST_COUNTERS_TO_LOSE) {
            throw new UnsupportedOperationException("too many counters");
        }
        fortunes.learn(rules);
        fortunes.clearSum();
        for (int place = 0; place < PLACES; place++) {
            fortunes.addHeaps(sum.heaps[place], 1);
        }
        return fortunes.moverWinsSum();
    }

    public int quotient(int size) throws IllegalArgumentException {
        if (size < 1 || size > Quotient.GREATEST_SIZE) {
            throw new IllegalArgumentException("no such size");
        }
        fortunes.learn(rules);
        classes.make(size, fortunes);
        return classes.found;
    }

    public int classOf() throws IllegalStateException, UnsupportedOperationException {
        requireQuotient();
        int found = classes.classOfHeaps(sum.heaps);
        if (found == NONE) {
            throw new UnsupportedOperationException("none of the quotient's sums");
        }
        return found;
    }

    public int ofClass(int c, int what) throws IllegalStateException, IndexOutOfBoundsException {
        requireQuotient();
        if (c < 0 || c >= classes.found || what < 0 || what > 4) {
            throw new IndexOutOfBoundsException("no such class, or nothing that it has");
        }
        if (what == 0) {
            return classes.moverWinsClass(c) ? 1 : 0;
        }
        return what == 1 ? classes.sumsIn[c] : classes.withHeapAdded(c, what - 1);
    }

    public int count(int what) {
        switch (what) {
            case 0:
                return nimbers.end;
            case 1:
                return nimbers.greatest;
            case 2:
                return sum.heapCount();
            case 3:
                return sum.played;
            case 4:
                return classes.found;
            default:
                return NONE;
        }
    }

    private void forgetWhatRulesGave() {
        nimbers.forget();
        fortunes.forget();
        classes.found = NONE;
    }

    private static boolean isEntry(int from, int to, int other) {
        return from >= 1 && from <= GREATEST_FROM
                && to >= 0 && to < from
                && other >= 0 && other < from
                && to + other <= from;
    }

    private void requireOptions(int heap) {
        if (heap < 0 || heap > rules.greatestWithOptions()) {
            throw new IllegalArgumentException("no heap whose options are told");
        }
    }

    private static void requirePlace(int place) {
        if (place < 0 || place >= PLACES) {
            throw new IndexOutOfBoundsException("no such place of the sum");
        }
    }

    private void requirePlayableSum() {
        if (sum.greatestHeap() > rules.greatestWithOptions()) {
            throw new UnsupportedOperationException("a heap whose options are not told");
        }
    }

    private void requireQuotient() {
        if (classes.found == NONE) {
            throw new IllegalStateException("no quotient");
        }
    }

    private void chooseMove(int move) {
        requirePlayableSum();
        if (!findMove(move)) {
            throw new IndexOutOfBoundsException("no such move");
        }
    }

    private boolean findMove(int move) {
        int left = move;
        for (int place = 0; place < PLACES; place++) {
            int size = sum.heaps[place];
            int optionCount = rules.optionCount(size);
            if (left < optionCount) {
                choice.place = place;
                return rules.choose(size, left, choice);
            }
            left -= optionCount;
        }
        return false;
    }

    private int nimberOfSum() {
        if (!nimbers.has(sum.greatestHeap())) {
            throw new IllegalStateException("the table lacks a heap of the sum");
        }
        int all = 0;
        for (int place = 0; place < PLACES; place++) {
            all ^= nimbers.of[sum.heaps[place]];
        }
        return all;
    }

    /** An option, its heaps in rising order with 0 behind them, and the place of the sum that it is made from. */
    static final class Choice {
        static final int PACKED_BITS = 5;
        static final int PACKED_MASK = 31;

        int place;
        int first;
        int second;
        int third;

        void become(int low, int middle, int high) {
            first = low;
            second = middle;
            third = high;
        }

        int part(int which) {
            if (which == 0) {
                return first;
            }
            return which == 1 ? second : third;
        }

        /** The heaps in one number, for those of small heaps: each of them is below 32. */
        int packed() {
            return first | (second << PACKED_BITS) | (third << (2 * PACKED_BITS));
        }
    }

    /**
     * What is told of the rules, and the options that follow from it. Options with the same counters in all and
     * the same number of heaps are a GROUP: groups follow one another in the order of the options, so that
     * most options need never be looked at.
     */
    static final class Rules {
        private static final int MOST_HEAPS = 3;
        /** The lower heap of an entry is at most half of 64. */
        private static final int LOWER_HEAPS = GREATEST_FROM / 2 + 1;
        private static final int GREATEST_WITH_EIGHT_TO_ANALYSE = 200;
        private static final int GREATEST_WITH_EIGHT_AND_OPTIONS = 60;

        int kind = CODE;
        final int[] digits = new int[LAST_DIGIT_PLACE + 1];
        final boolean[] numbers = new boolean[GREATEST_NUMBER + 1];
        /** One row of bits for each heap and the lower heap of its entries: bit b stands for the higher heap b. */
        private final long[] entries = new long[(GREATEST_FROM + 1) * LOWER_HEAPS];

        boolean hasEntry(int from, int low, int high) {
            return ((entries[from * LOWER_HEAPS + low] >> high) & 1L) != 0;
        }

        void setEntry(int from, int low, int high, boolean is) {
            int row = from * LOWER_HEAPS + low;
            long bit = 1L << high;
            entries[row] = is ? entries[row] | bit : entries[row] & ~bit;
        }

        boolean anyDigitWith(int bit) {
            for (int place = 1; place <= LAST_DIGIT_PLACE; place++) {
                if ((digits[place] & bit) != 0) {
                    return true;
                }
            }
            return false;
        }

        int lastPlaceWithDigit() {
            int last = 0;
            for (int place = 1; place <= LAST_DIGIT_PLACE; place++) {
                last = digits[place] > 0 ? place : last;
            }
            return last;
        }

        int greatestNumber() {
            int greatest = 0;
            for (int number = 1; number <= GREATEST_NUMBER; number++) {
                greatest = numbers[number] ? number : greatest;
            }
            return greatest;
        }

        boolean isCodeWithEight() {
            return kind == CODE && anyDigitWith(8);
        }

        int greatestToAnalyse() {
            return isCodeWithEight() ? GREATEST_WITH_EIGHT_TO_ANALYSE : GREATEST_HEAP;
        }

        int greatestWithOptions() {
            return isCodeWithEight() ? GREATEST_WITH_EIGHT_AND_OPTIONS : GREATEST_HEAP;
        }

        int optionCount(int size) {
            int all = 0;
            int least = leastTotal(size);
            for (int total = size; total >= least; total--) {
                for (int heaps = 0; heaps <= MOST_HEAPS; heaps++) {
                    all += groupSize(size, total, heaps);
                }
            }
            return all;
        }

        /** Whether there is an option k; the choice becomes it then. */
        boolean choose(int size, int k, Choice choice) {
            if (k < 0) {
                return false;
            }
            int left = k;
            int least = leastTotal(size);
            for (int total = size; total >= least; total--) {
                for (int heaps = 0; heaps <= MOST_HEAPS; heaps++) {
                    int inGroup = groupSize(size, total, heaps);
                    if (left < inGroup) {
                        chooseInGroup(size, total, heaps, left, choice);
                        return true;
                    }
                    left -= inGroup;
                }
            }
            return false;
        }

        /** Puts all options of a heap into a row from a place on; answers the place behind them. */
        int writeOptions(int size, int[] row, int from, Choice choice) {
            int next = from;
            int least = leastTotal(size);
            for (int total = size; total >= least; total--) {
                for (int heaps = 0; heaps <= MOST_HEAPS; heaps++) {
                    int inGroup = groupSize(size, total, heaps);
                    for (int k = 0; k < inGroup && next < row.length; k++) {
                        chooseInGroup(size, total, heaps, k, choice);
                        row[next] = choice.packed();
                        next++;
                    }
                }
            }
            return next;
        }

        private int leastTotal(int size) {
            switch (kind) {
                case CODE:
                    return Math.max(0, size - LAST_DIGIT_PLACE);
                case SUBTRACTION:
                    return Math.max(0, size - GREATEST_NUMBER);
                case TABLE:
                    return size > GREATEST_FROM ? size : 0;
                default:
                    return size;
            }
        }

        private int groupSize(int size, int total, int heaps) {
            switch (kind) {
                case CODE:
                    return codeAllows(size - total, heaps) ? ways(total, heaps) : 0;
                case SUBTRACTION:
                    return numbersAllow(size - total) && heaps <= 1 ? ways(total, heaps) : 0;
                case SPLIT:
                    return heaps == 2 ? ways(total, 2) : 0;
                case UNLIKE:
                    // All but the two of one size, which only an even heap has.
                    return heaps == 2 ? ways(total - 1, 2) : 0;
                default:
                    return entriesInGroup(size, total, heaps);
            }
        }

        private boolean codeAllows(int taken, int heaps) {
            return taken >= 1 && taken <= LAST_DIGIT_PLACE && ((digits[taken] >> heaps) & 1) != 0;
        }

        private boolean numbersAllow(int taken) {
            return taken >= 1 && taken <= GREATEST_NUMBER && numbers[taken];
        }

        private int entriesInGroup(int size, int total, int heaps) {
            if (size < 1 || size > GREATEST_FROM) {
                return 0;
            }
            if (heaps <= 1) {
                return ways(total, heaps) == 1 && total < size && hasEntry(size, 0, total) ? 1 : 0;
            }
            int all = 0;
            if (heaps == 2) {
                for (int low = 1; low <= total / 2; low++) {
                    all += hasEntry(size, low, total - low) ? 1 : 0;
                }
            }
            return all;
        }

        /** In how many ways so many counters are so many heaps. */
        private static int ways(int counters, int heaps) {
            switch (heaps) {
                case 0:
                    return counters == 0 ? 1 : 0;
                case 1:
                    return counters >= 1 ? 1 : 0;
                case 2:
                    return Math.max(0, counters) / 2;
                default:
                    // Partitions into three parts: the whole number next to a twelfth of the square.
                    return (counters * counters + 6) / 12;
            }
        }

        private void chooseInGroup(int size, int total, int heaps, int k, Choice choice) {
            if (heaps <= 1) {
                choice.become(total, 0, 0);
            } else if (heaps == 2) {
                int low = kind == TABLE ? lowerOfEntry(size, total, k) : k + 1;
                choice.become(low, total - low, 0);
            } else {
                chooseThree(total, k, choice);
            }
        }

        private int lowerOfEntry(int size, int total, int k) {
            int left = k;
            for (int low = 1; low <= total / 2; low++) {
                if (hasEntry(size, low, total - low)) {
                    if (left == 0) {
                        return low;
                    }
                    left--;
                }
            }
            return 0;
        }

        private static void chooseThree(int total, int k, Choice choice) {
            int left = k;
            for (int low = 1; low <= total / 3; low++) {
                int withLow = (total - low) / 2 - low + 1;
                if (left < withLow) {
                    int middle = low + left;
                    choice.become(low, middle, total - low - middle);
                    return;
                }
                left -= withLow;
            }
        }
    }

    /**
     * The table of nimbers. No play from a heap of h is longer than h moves (with a table of entries 127), so no
     * nimber is above 2000 and no exclusive or of nimbers is above 2047.
     */
    static final class Nimbers {
        private static final int WORDS = 32;
        /** More than the places of a code, so that a row is not written anew while it is needed. */
        private static final int ROWS = 16;

        final int[] of = new int[GREATEST_HEAP + 1];
        int end;
        int greatest;
        int period;
        int preperiod;
        /** Heaps up to this one stay worked out when a smaller table is asked for. */
        private int known;
        private boolean periodSought;
        private final long[] seen = new long[WORDS];
        /**
         * Rows of bits, by the counters that are left: what two heaps of these can have. Every place of a code
         * asks for the same rows, so they are kept.
         */
        private final long[] ofTwo = new long[ROWS * WORDS];
        private final long[] ofThree = new long[ROWS * WORDS];

        void forget() {
            known = 0;
            end = 0;
            greatest = 0;
            periodSought = false;
        }

        boolean has(int size) {
            return size >= 0 && size <= end;
        }

        int ofChoice(Choice choice) {
            return of[choice.first] ^ of[choice.second] ^ of[choice.third];
        }

        int howOften(int nimber) {
            int often = 0;
            for (int size = 0; size <= end; size++) {
                often += of[size] == nimber ? 1 : 0;
            }
            return often;
        }

        void reach(int n, Rules rules) {
            boolean needsTwo = rules.kind == CODE && rules.anyDigitWith(4);
            boolean needsThree = rules.isCodeWithEight();
            for (int size = known + 1; size <= n; size++) {
                Arrays.fill(seen, 0L);
                seeOptions(size, rules);
                of[size] = leastUnseen();
                if (needsTwo) {
                    clearRow(ofTwo, rowOf(size));
                    markTwo(ofTwo, rowOf(size), size);
                }
                if (needsThree) {
                    clearRow(ofThree, rowOf(size));
                    markThree(ofThree, rowOf(size), size);
                }
            }
            known = Math.max(known, n);
            end = n;
            periodSought = false;
            findGreatest();
        }

        private void findGreatest() {
            greatest = 0;
            for (int size = 0; size <= end; size++) {
                greatest = Math.max(greatest, of[size]);
            }
        }

        private void seeOptions(int size, Rules rules) {
            switch (rules.kind) {
                case CODE:
                    seeCode(size, rules);
                    break;
                case SUBTRACTION:
                    seeNumbers(size, rules);
                    break;
                case SPLIT:
                    markTwo(seen, 0, size);
                    break;
                case UNLIKE:
                    seeUnlike(size);
                    break;
                default:
                    seeEntries(size, rules);
                    break;
            }
        }

        private void seeCode(int size, Rules rules) {
            for (int taken = 1; taken <= LAST_DIGIT_PLACE && taken <= size; taken++) {
                int left = size - taken;
                int digit = rules.digits[taken];
                if (left == 0) {
                    if ((digit & 1) != 0) {
                        mark(seen, 0, 0);
                    }
                    continue;
                }
                if ((digit & 2) != 0) {
                    mark(seen, 0, of[left]);
                }
                if ((digit & 4) != 0) {
                    seeRow(ofTwo, rowOf(left));
                }
                if ((digit & 8) != 0) {
                    seeRow(ofThree, rowOf(left));
                }
            }
        }

        private void seeNumbers(int size, Rules rules) {
            for (int taken = 1; taken <= GREATEST_NUMBER && taken <= size; taken++) {
                if (rules.numbers[taken]) {
                    mark(seen, 0, of[size - taken]);
                }
            }
        }

        private void seeUnlike(int size) {
            for (int low = 1; 2 * low < size; low++) {
                mark(seen, 0, of[low] ^ of[size - low]);
            }
        }

        private void seeEntries(int size, Rules rules) {
            if (size > GREATEST_FROM) {
                return;
            }
            for (int low = 0; 2 * low <= size; low++) {
                for (int high = low; high < size && low + high <= size; high++) {
                    if (rules.hasEntry(size, low, high)) {
                        mark(seen, 0, of[low] ^ of[high]);
                    }
                }
            }
        }

        private void markTwo(long[] marks, int from, int counters) {
            for (int low = 1; 2 * low <= counters; low++) {
                mark(marks, from, of[low] ^ of[counters - low]);
            }
        }

        private void markThree(long[] marks, int from, int counters) {
            for (int low = 1; 3 * low <= counters; low++) {
                for (int middle = low; low + 2 * middle <= counters; middle++) {
                    mark(marks, from, of[low] ^ of[middle] ^ of[counters - low - middle]);
                }
            }
        }

        private static int rowOf(int counters) {
            return counters % ROWS * WORDS;
        }

        private static void clearRow(long[] rows, int from) {
            for (int word = 0; word < WORDS; word++) {
                rows[from + word] = 0L;
            }
        }

        private void seeRow(long[] rows, int from) {
            for (int word = 0; word < WORDS; word++) {
                seen[word] |= rows[from + word];
            }
        }

        private static void mark(long[] marks, int from, int nimber) {
            marks[from + (nimber >> 6)] |= 1L << (nimber & 63);
        }

        private int leastUnseen() {
            int nimber = 0;
            while (nimber < GREATEST_HEAP && ((seen[nimber >> 6] >> (nimber & 63)) & 1L) != 0) {
                nimber++;
            }
            return nimber;
        }

        void seekPeriod(Rules rules) {
            if (periodSought) {
                return;
            }
            periodSought = true;
            period = NONE;
            preperiod = NONE;
            if (rules.kind > SUBTRACTION || rules.isCodeWithEight()) {
                return;
            }
            boolean isCode = rules.kind == CODE;
            int reach = isCode ? rules.lastPlaceWithDigit() : rules.greatestNumber();
            for (int p = 1; p <= end + 1 && period == NONE; p++) {
                preperiod = leastPreperiod(p, isCode, reach);
                period = preperiod == NONE ? NONE : p;
            }
        }

        /**
         * Where one preperiod fails, all from it up to the first unlike pair fail too, for they ask for more: so the
         * next one to try stands behind that pair.
         */
        private int leastPreperiod(int p, boolean isCode, int reach) {
            int n = 0;
            for (int m = 0; m <= end; m++) {
                int bound = isCode ? 2 * n + p + reach : n + reach;
                if (bound - 1 + p > end) {
                    return NONE;
                }
                if (m >= bound) {
                    return n;
                }
                if (of[m] != of[m + p]) {
                    n = m + 1;
                }
            }
            return NONE;
        }
    }

    /** The heaps in their places, and what it takes to undo the moves that were played. */
    static final class Sum {
        final int[] heaps = new int[PLACES];
        int played;
        private final int[] placeBefore = new int[MOST_CALLS];
        private final int[] sizeBefore = new int[MOST_CALLS];
        private final int[] secondPlace = new int[MOST_CALLS];
        private final int[] thirdPlace = new int[MOST_CALLS];

        int heapCount() {
            int all = 0;
            for (int place = 0; place < PLACES; place++) {
                all += heaps[place] > 0 ? 1 : 0;
            }
            return all;
        }

        int counters() {
            int all = 0;
            for (int place = 0; place < PLACES; place++) {
                all += heaps[place];
            }
            return all;
        }

        int greatestHeap() {
            int greatest = 0;
            for (int place = 0; place < PLACES; place++) {
                greatest = Math.max(greatest, heaps[place]);
            }
            return greatest;
        }

        /** Whether the move had room; without it nothing changes. */
        boolean make(Choice choice) {
            int second = choice.second > 0 ? emptyPlace(0) : NONE;
            int third = choice.third > 0 ? emptyPlace(second + 1) : NONE;
            boolean lacksRoom = (choice.second > 0 && second == NONE) || (choice.third > 0 && third == NONE);
            if (lacksRoom || played >= MOST_CALLS) {
                return false;
            }
            placeBefore[played] = choice.place;
            sizeBefore[played] = heaps[choice.place];
            secondPlace[played] = second;
            thirdPlace[played] = third;
            played++;
            heaps[choice.place] = choice.first;
            putHeap(second, choice.second);
            putHeap(third, choice.third);
            return true;
        }

        void takeBack() {
            if (played > 0) {
                played--;
                putHeap(secondPlace[played], 0);
                putHeap(thirdPlace[played], 0);
                putHeap(placeBefore[played], sizeBefore[played]);
            }
        }

        private int emptyPlace(int from) {
            for (int place = from; place < PLACES; place++) {
                if (heaps[place] == 0) {
                    return place;
                }
            }
            return NONE;
        }

        private void putHeap(int place, int size) {
            if (place != NONE) {
                heaps[place] = size;
            }
        }
    }

    /**
     * Who wins when the last one to move loses. A sum is held as how many heaps of each size it has; sums of up to
     * 18 counters (what a quotient can need) are numbered, and their fortunes kept until a rule is told.
     */
    static final class LastLoses {
        private static final int MOST_COUNTERS = 18;
        private static final int SIZES = MOST_COUNTERS + 1;
        /** So many sums of up to 18 counters there are. */
        private static final int SUMS = 1597;
        /** Heaps of 1 to 16 have at most 871 options in all: with 15 for every digit. */
        private static final int MOST_OPTIONS = 900;
        /** A heap of h counters can't be played on for more than 2 * h - 1 moves. */
        private static final int MOST_MOVES = 2 * MOST_COUNTERS;
        private static final int UNKNOWN = 0;
        private static final int WINS = 1;
        private static final int LOSES = 2;

        /** Of sums with at most so many counters (row): how many have no heap above a size (column). */
        private final int[] sumsUpTo = new int[SIZES * SIZES];
        private final int[] fortune = new int[SUMS];
        private final int[] firstOption = new int[MOST_COUNTERS_TO_LOSE + 2];
        private final int[] optionRow = new int[MOST_OPTIONS];
        private final int[] heapsOf = new int[Choice.PACKED_MASK + 1];
        private final Choice choice = new Choice();
        private boolean ready;

        LastLoses() {
            for (int counters = 0; counters < SIZES; counters++) {
                sumsUpTo[counters * SIZES] = 1;
                for (int size = 1; size < SIZES; size++) {
                    int withSize = counters >= size ? sumsUpTo[(counters - size) * SIZES + size] : 0;
                    sumsUpTo[counters * SIZES + size] = sumsUpTo[counters * SIZES + size - 1] + withSize;
                }
            }
        }

        void forget() {
            ready = false;
        }

        void clearSum() {
            Arrays.fill(heapsOf, 0);
        }

        void addHeaps(int size, int howMany) {
            if (size >= 0 && size <= MOST_COUNTERS_TO_LOSE) {
                heapsOf[size] += howMany;
            }
        }

        /** To be called before sums are asked for, whenever a rule may have been told. */
        void learn(Rules rules) {
            if (ready) {
                return;
            }
            int next = 0;
            for (int size = 1; size <= MOST_COUNTERS_TO_LOSE; size++) {
                firstOption[size] = next;
                next = rules.writeOptions(size, optionRow, next, choice);
            }
            firstOption[MOST_COUNTERS_TO_LOSE + 1] = next;
            Arrays.fill(fortune, UNKNOWN);
            ready = true;
        }

        boolean moverWinsSum() {
            return moverWins(0);
        }

        private boolean moverWins(int depth) {
            int sum = numberOfSum();
            if (sum >= SUMS || depth > MOST_MOVES) {
                return false;
            }
            if (fortune[sum] == UNKNOWN) {
                fortune[sum] = !hasMove() || hasGoodMove(depth) ? WINS : LOSES;
            }
            return fortune[sum] == WINS;
        }

        private boolean hasMove() {
            for (int size = 1; size <= MOST_COUNTERS_TO_LOSE; size++) {
                if (heapsOf[size] > 0 && firstOption[size] < firstOption[size + 1]) {
                    return true;
                }
            }
            return false;
        }

        private boolean hasGoodMove(int depth) {
            for (int size = 1; size <= MOST_COUNTERS_TO_LOSE; size++) {
                int behind = heapsOf[size] > 0 ? firstOption[size + 1] : 0;
                for (int option = firstOption[size]; option < behind; option++) {
                    change(size, optionRow[option], 1);
                    boolean nextWins = moverWins(depth + 1);
                    change(size, optionRow[option], -1);
                    if (!nextWins) {
                        return true;
                    }
                }
            }
            return false;
        }

        /** Parts of 0 are counted at size 0, which no other method looks at. */
        private void change(int size, int option, int by) {
            heapsOf[size] -= by;
            heapsOf[option & Choice.PACKED_MASK] += by;
            heapsOf[(option >> Choice.PACKED_BITS) & Choice.PACKED_MASK] += by;
            heapsOf[(option >> (2 * Choice.PACKED_BITS)) & Choice.PACKED_MASK] += by;
        }

        /**
         * Sums stand in the order of their heaps, greatest first: before a sum, at each of its heaps, stand those
         * that have only smaller ones from there on.
         */
        private int numberOfSum() {
            int number = 0;
            int left = MOST_COUNTERS;
            for (int size = MOST_COUNTERS_TO_LOSE; size >= 1; size--) {
                for (int i = 0; i < heapsOf[size] && left >= size; i++) {
                    number += sumsUpTo[left * SIZES + size - 1];
                    left -= size;
                }
            }
            return number;
        }
    }

    /** The classes of small sums; all sums of the greatest size are listed once, those of a size are some of them. */
    static final class Quotient {
        static final int GREATEST_SIZE = 3;
        private static final int MOST_HEAPS = 4;
        private static final int SUMS = 35;
        /** The sums of up to two heaps stand first, and so the tests do. */
        private static final int TESTS = 10;

        int found = NONE;
        final int[] sumsIn = new int[SUMS];
        private final int[] ones = new int[SUMS];
        private final int[] twos = new int[SUMS];
        private final int[] threes = new int[SUMS];
        private final int[] classOfSum = new int[SUMS];
        private final int[] firstSum = new int[SUMS];
        /** Of a class, bit t: whether who moves wins with test t added. */
        private final int[] fortunes = new int[SUMS];

        Quotient() {
            int next = 0;
            for (int heaps = 0; heaps <= MOST_HEAPS; heaps++) {
                for (int one = heaps; one >= 0; one--) {
                    for (int two = heaps - one; two >= 0; two--) {
                        ones[next] = one;
                        twos[next] = two;
                        threes[next] = heaps - one - two;
                        next++;
                    }
                }
            }
        }

        void make(int size, LastLoses lastLoses) {
            found = 0;
            for (int sum = 0; sum < SUMS; sum++) {
                classOfSum[sum] = NONE;
                if (isOfSize(sum, size)) {
                    enter(sum, fortunesOf(sum, size, lastLoses));
                }
            }
        }

        boolean moverWinsClass(int c) {
            // Test 0 adds nothing.
            return (fortunes[c] & 1) != 0;
        }

        int withHeapAdded(int c, int size) {
            int sum = firstSum[c];
            return classOfCounts(
                    ones[sum] + (size == 1 ? 1 : 0),
                    twos[sum] + (size == 2 ? 1 : 0),
                    threes[sum] + (size == 3 ? 1 : 0));
        }

        int classOfHeaps(int[] heaps) {
            int one = 0;
            int two = 0;
            int three = 0;
            for (int place = 0; place < heaps.length; place++) {
                if (heaps[place] > GREATEST_SIZE) {
                    return NONE;
                }
                one += heaps[place] == 1 ? 1 : 0;
                two += heaps[place] == 2 ? 1 : 0;
                three += heaps[place] == 3 ? 1 : 0;
            }
            return classOfCounts(one, two, three);
        }

        private int classOfCounts(int one, int two, int three) {
            for (int sum = 0; sum < SUMS; sum++) {
                if (ones[sum] == one && twos[sum] == two && threes[sum] == three) {
                    return classOfSum[sum];
                }
            }
            return NONE;
        }

        private boolean isOfSize(int sum, int size) {
            return (size >= 2 || twos[sum] == 0) && (size >= 3 || threes[sum] == 0);
        }

        private int fortunesOf(int sum, int size, LastLoses lastLoses) {
            int bits = 0;
            for (int test = 0; test < TESTS; test++) {
                if (isOfSize(test, size)) {
                    lastLoses.clearSum();
                    lastLoses.addHeaps(1, ones[sum] + ones[test]);
                    lastLoses.addHeaps(2, twos[sum] + twos[test]);
                    lastLoses.addHeaps(3, threes[sum] + threes[test]);
                    bits |= lastLoses.moverWinsSum() ? 1 << test : 0;
                }
            }
            return bits;
        }

        private void enter(int sum, int bits) {
            int c = 0;
            while (c < found && fortunes[c] != bits) {
                c++;
            }
            if (c == found) {
                fortunes[c] = bits;
                firstSum[c] = sum;
                sumsIn[c] = 0;
                found++;
            }
            sumsIn[c]++;
            classOfSum[sum] = c;
        }
    }
}
