import java.util.ArrayDeque;
import java.util.ArrayList;
import java.util.Collections;
import java.util.Comparator;
import java.util.Deque;
import java.util.HashMap;
import java.util.HashSet;
import java.util.List;
import java.util.Map;
import java.util.Set;
import java.util.TreeSet;

/** The document once more, as plainly as it can be said and without any care for speed or room. */
final class Plain {
    private int kind;
    private final int[] digits = new int[13];
    private final Set<Integer> numbers = new HashSet<>();
    private final Set<List<Integer>> entries = new HashSet<>();
    private List<Integer> table = new ArrayList<>(List.of(0));
    private int[] sum = new int[16];
    private final Deque<int[]> played = new ArrayDeque<>();
    private final Map<List<Integer>, Boolean> fortunes = new HashMap<>();
    private final Map<Integer, List<List<Integer>>> optionsKept = new HashMap<>();
    private List<List<Integer>> sums;
    private Map<List<Integer>, Integer> classOfSum;
    private List<List<List<Integer>>> classes;

    private static final Comparator<List<Integer>> ORDER = (x, y) -> {
        if (total(x) != total(y)) {
            return total(y) - total(x);
        }
        return x.size() != y.size() ? x.size() - y.size() : lexical(x, y);
    };

    private static int total(List<Integer> heaps) {
        return heaps.stream().mapToInt(h -> h).sum();
    }

    private static int lexical(List<Integer> x, List<Integer> y) {
        for (int i = 0; i < x.size(); i++) {
            if (!x.get(i).equals(y.get(i))) {
                return x.get(i) - y.get(i);
            }
        }
        return 0;
    }

    private static List<Integer> sorted(int... heaps) {
        List<Integer> list = new ArrayList<>();
        for (int heap : heaps) {
            if (heap > 0) {
                list.add(heap);
            }
        }
        Collections.sort(list);
        return list;
    }

    private void told() {
        table = new ArrayList<>(List.of(0));
        fortunes.clear();
        optionsKept.clear();
        classes = null;
    }

    int kind(int k) {
        if (k < 0 || k > 4) {
            throw new IllegalArgumentException();
        }
        int before = kind;
        kind = k;
        told();
        return before;
    }

    int digit(int place, int digit) {
        if (place < 1 || place > 12) {
            throw new IndexOutOfBoundsException();
        }
        if (digit < 0 || digit > 15) {
            throw new IllegalArgumentException();
        }
        int before = digits[place];
        digits[place] = digit;
        told();
        return before;
    }

    boolean number(int number, boolean is) {
        if (number < 1 || number > 64) {
            throw new IllegalArgumentException();
        }
        boolean before = is ? !numbers.add(number) : numbers.remove(number);
        told();
        return before;
    }

    boolean entry(int from, int to, int other, boolean is) {
        if (from < 1 || from > 64 || to < 0 || to >= from || other < 0 || other >= from || to + other > from) {
            throw new IllegalArgumentException();
        }
        List<Integer> entry = List.of(from, Math.min(to, other), Math.max(to, other));
        boolean before = is ? !entries.add(entry) : entries.remove(entry);
        told();
        return before;
    }

    private boolean eight() {
        boolean any = false;
        for (int digit : digits) {
            any |= digit >= 8;
        }
        return kind == 0 && any;
    }

    private List<List<Integer>> optionsOf(int h) {
        return optionsKept.computeIfAbsent(h, this::findOptions);
    }

    private List<List<Integer>> findOptions(int h) {
        TreeSet<List<Integer>> found = new TreeSet<>(ORDER);
        if (h == 0) {
            return new ArrayList<>();
        }
        if (kind == 0) {
            for (int k = 1; k <= 12 && k <= h; k++) {
                codeOptions(h - k, digits[k], found);
            }
        } else if (kind == 1) {
            for (int number : numbers) {
                if (number <= h) {
                    found.add(sorted(h - number));
                }
            }
        } else if (kind == 4) {
            for (List<Integer> entry : entries) {
                if (entry.get(0) == h) {
                    found.add(sorted(entry.get(1), entry.get(2)));
                }
            }
        } else {
            for (int a = 1; a < h; a++) {
                if (kind == 2 || a != h - a) {
                    found.add(sorted(a, h - a));
                }
            }
        }
        return new ArrayList<>(found);
    }

    private static void codeOptions(int left, int digit, Set<List<Integer>> found) {
        boolean[] may = {digit % 2 == 1, digit / 2 % 2 == 1, digit / 4 % 2 == 1, digit / 8 == 1};
        if (left == 0 && may[0]) {
            found.add(sorted());
        }
        if (left > 0 && may[1]) {
            found.add(sorted(left));
        }
        for (int a = 1; a < left; a++) {
            if (may[2]) {
                found.add(sorted(a, left - a));
            }
            for (int b = 1; may[3] && b < left - a; b++) {
                found.add(sorted(a, b, left - a - b));
            }
        }
    }

    int analyse(int n) {
        if (n < 0 || n > (eight() ? 200 : 2000)) {
            throw new IllegalArgumentException();
        }
        table = new ArrayList<>(List.of(0));
        for (int h = 1; h <= n; h++) {
            Set<Integer> reached = new HashSet<>();
            for (List<Integer> option : findOptions(h)) {
                reached.add(option.stream().mapToInt(table::get).reduce(0, (x, y) -> x ^ y));
            }
            int nimber = 0;
            while (reached.contains(nimber)) {
                nimber++;
            }
            table.add(nimber);
        }
        return Collections.max(table);
    }

    int nimber(int heap) {
        if (heap < 0 || heap >= table.size()) {
            throw new IndexOutOfBoundsException();
        }
        return table.get(heap);
    }

    int frequency(int nimber) {
        return Collections.frequency(table, nimber);
    }

    int period(int what) {
        if (what != 0 && what != 1) {
            throw new IndexOutOfBoundsException();
        }
        if (kind > 1 || eight()) {
            return -1;
        }
        for (int p = 1; p <= table.size(); p++) {
            for (int n = 0; n <= table.size(); n++) {
                if (isProved(p, n)) {
                    return what == 0 ? p : n;
                }
            }
        }
        return -1;
    }

    private boolean isProved(int p, int n) {
        int k = 0;
        for (int place = 1; kind == 0 && place <= 12; place++) {
            k = digits[place] > 0 ? place : k;
        }
        for (int number : numbers) {
            k = kind == 1 ? Math.max(k, number) : k;
        }
        int below = kind == 0 ? 2 * n + p + k : n + k;
        for (int m = n; m < below; m++) {
            if (m + p >= table.size() || !table.get(m).equals(table.get(m + p))) {
                return false;
            }
        }
        return true;
    }

    private boolean takes(int heap) {
        return heap >= 0 && heap <= (eight() ? 60 : 2000);
    }

    int options(int heap) {
        if (!takes(heap)) {
            throw new IllegalArgumentException();
        }
        return optionsOf(heap).size();
    }

    int option(int heap, int k, int which) {
        if (!takes(heap)) {
            throw new IllegalArgumentException();
        }
        List<List<Integer>> all = optionsOf(heap);
        if (k < 0 || k >= all.size() || which < 0 || which > 2) {
            throw new IndexOutOfBoundsException();
        }
        return part(all.get(k), which);
    }

    private static int part(List<Integer> option, int which) {
        return which < option.size() ? option.get(which) : 0;
    }

    int heap(int place, int size) {
        if (place < 0 || place > 15) {
            throw new IndexOutOfBoundsException();
        }
        if (size < 0 || size > 2000) {
            throw new IllegalArgumentException();
        }
        int before = sum[place];
        sum[place] = size;
        played.clear();
        return before;
    }

    int at(int place) {
        if (place < 0 || place > 15) {
            throw new IndexOutOfBoundsException();
        }
        return sum[place];
    }

    private List<int[]> allMoves() {
        List<int[]> all = new ArrayList<>();
        for (int place = 0; place < 16; place++) {
            if (!takes(sum[place])) {
                throw new UnsupportedOperationException();
            }
            List<List<Integer>> options = optionsOf(sum[place]);
            for (int k = 0; k < options.size(); k++) {
                all.add(new int[] {place, k});
            }
        }
        return all;
    }

    private int[] moveAt(int move) {
        List<int[]> all = allMoves();
        if (move < 0 || move >= all.size()) {
            throw new IndexOutOfBoundsException();
        }
        return all.get(move);
    }

    private List<Integer> optionAt(int[] move) {
        return optionsOf(sum[move[0]]).get(move[1]);
    }

    int moves() {
        return allMoves().size();
    }

    int move(int move, int what) {
        int[] found = moveAt(move);
        if (what < 0 || what > 3) {
            throw new IndexOutOfBoundsException();
        }
        return what == 0 ? found[0] : part(optionAt(found), what - 1);
    }

    int play(int move) {
        int[] found = moveAt(move);
        List<Integer> rest = new ArrayList<>(optionAt(found));
        int[] next = sum.clone();
        next[found[0]] = rest.isEmpty() ? 0 : rest.remove(0);
        for (int place = 0; place < 16 && !rest.isEmpty(); place++) {
            if (next[place] == 0) {
                next[place] = rest.remove(0);
            }
        }
        if (!rest.isEmpty()) {
            throw new IllegalStateException();
        }
        played.push(sum);
        sum = next;
        return played.size();
    }

    boolean wins(int move) {
        int[] found = moveAt(move);
        int all = value() ^ table.get(sum[found[0]]);
        for (int heap : optionAt(found)) {
            all ^= table.get(heap);
        }
        return all == 0;
    }

    int undo() {
        if (played.isEmpty()) {
            throw new IllegalStateException();
        }
        sum = played.pop();
        return played.size();
    }

    int value() {
        int all = 0;
        for (int heap : sum) {
            if (heap >= table.size()) {
                throw new IllegalStateException();
            }
            all ^= table.get(heap);
        }
        return all;
    }

    private boolean moverWins(List<Integer> heaps) {
        Boolean known = fortunes.get(heaps);
        if (known != null) {
            return known;
        }
        boolean any = false;
        boolean wins = false;
        for (int i = 0; i < heaps.size(); i++) {
            for (List<Integer> option : optionsOf(heaps.get(i))) {
                any = true;
                List<Integer> next = new ArrayList<>(heaps);
                next.remove(i);
                next.addAll(option);
                Collections.sort(next);
                wins |= !moverWins(next);
            }
        }
        fortunes.put(heaps, !any || wins);
        return !any || wins;
    }

    boolean lastLoses() {
        List<Integer> heaps = sorted(sum);
        if (total(heaps) > 16) {
            throw new UnsupportedOperationException();
        }
        return moverWins(heaps);
    }

    private static List<List<Integer>> sumsOf(int most, int size) {
        List<List<Integer>> all = new ArrayList<>();
        List<List<Integer>> latest = List.of(List.of());
        for (int heaps = 0; heaps <= most; heaps++) {
            all.addAll(latest);
            List<List<Integer>> longer = new ArrayList<>();
            for (List<Integer> heapsSoFar : latest) {
                int least = heapsSoFar.isEmpty() ? 1 : heapsSoFar.get(heapsSoFar.size() - 1);
                for (int next = least; next <= size; next++) {
                    List<Integer> one = new ArrayList<>(heapsSoFar);
                    one.add(next);
                    longer.add(one);
                }
            }
            latest = longer;
        }
        return all;
    }

    private static List<Integer> joined(List<Integer> x, List<Integer> y) {
        List<Integer> both = new ArrayList<>(x);
        both.addAll(y);
        Collections.sort(both);
        return both;
    }

    int quotient(int size) {
        if (size < 1 || size > 3) {
            throw new IllegalArgumentException();
        }
        sums = sumsOf(4, size);
        classes = new ArrayList<>();
        classOfSum = new HashMap<>();
        Map<List<Boolean>, Integer> byFortunes = new HashMap<>();
        for (List<Integer> one : sums) {
            List<Boolean> tested = new ArrayList<>();
            for (List<Integer> test : sumsOf(2, size)) {
                tested.add(moverWins(joined(one, test)));
            }
            if (!byFortunes.containsKey(tested)) {
                byFortunes.put(tested, classes.size());
                classes.add(new ArrayList<>());
            }
            int c = byFortunes.get(tested);
            classes.get(c).add(one);
            classOfSum.put(one, c);
        }
        return classes.size();
    }

    int classOf() {
        if (classes == null) {
            throw new IllegalStateException();
        }
        Integer found = classOfSum.get(sorted(sum));
        if (found == null) {
            throw new UnsupportedOperationException();
        }
        return found;
    }

    int ofClass(int c, int what) {
        if (classes == null) {
            throw new IllegalStateException();
        }
        if (c < 0 || c >= classes.size() || what < 0 || what > 4) {
            throw new IndexOutOfBoundsException();
        }
        List<Integer> first = classes.get(c).get(0);
        if (what == 0) {
            return moverWins(first) ? 1 : 0;
        }
        return what == 1 ? classes.get(c).size() : classOfSum.getOrDefault(joined(first, List.of(what - 1)), -1);
    }

    int count(int what) {
        switch (what) {
            case 0:
                return table.size() - 1;
            case 1:
                return Collections.max(table);
            case 2:
                return sorted(sum).size();
            case 3:
                return played.size();
            case 4:
                return classes == null ? -1 : classes.size();
            default:
                return -1;
        }
    }
}
