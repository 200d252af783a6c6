/** Edges of promises 12 to 19 and of the terms they stand on: the sum, its moves, play and taking back. */
public final class SumEdgesTest extends Cases {
    private SumEdgesTest() {
        super("edges of the sum");
    }

    public static void main(String[] args) {
        SumEdgesTest test = new SumEdgesTest();
        test.heaps();
        test.movesOfSum();
        test.playing();
        test.room();
        test.winning();
        test.takingBack();
        test.values();
        test.counts();
        test.lifeOfObject();
        test.end();
    }

    private void heaps() {
        holds("A heap of the sum: the one before at this place", this::heapBefore);
        holds("THE SUM has heaps in PLACES 0 .. 15", this::allPlaces);
        holds("heap(): when there is no such place: too low", () -> heapRefused(INDEX, 1, -1, LEAST));
        holds("heap(): when there is no such place: too high", () -> heapRefused(INDEX, 1, 16, GREATEST));
        holds("heap(): when it is not 0 .. 2000: too small", () -> sizeRefused(-1, LEAST));
        holds("heap(): when it is not 0 .. 2000: too large", () -> sizeRefused(2001, GREATEST));
        holds("each of 0 (none) to 2000 counters", this::sizesInside);
        holds("moves that were played are forgotten", this::heapForgetsMoves);
        holds("(a refused heap() forgets nothing)", this::refusedHeapForgetsNothing);
        holds("(heap() leaves the table and the quotient)", this::heapKeepsTheRest);
        holds("at(): when there is no such place", this::atNoPlace);
    }

    private void heapBefore() {
        for (int place : new int[] {0, 15}) {
            due("heap(" + place + ", 2000)", 0, () -> desk.heap(place, 2000));
            due("heap(" + place + ", 2000) again", 2000, () -> desk.heap(place, 2000));
            due("heap(" + place + ", 0)", 2000, () -> desk.heap(place, 0));
            due("heap(" + place + ", 1)", 0, () -> desk.heap(place, 1));
        }
    }

    private void allPlaces() {
        for (int place = 0; place < 16; place++) {
            desk.heap(place, 100 + place);
        }
        for (int i = 0; i < 16; i++) {
            int place = i;
            due("at(" + place + ")", 100 + place, () -> desk.at(place));
        }
        due("count(2)", 16, () -> desk.count(2));
    }

    private void heapRefused(Object want, int size, int... places) {
        for (int place : places) {
            due("heap(" + place + ", " + size + ")", want, () -> desk.heap(place, size));
        }
    }

    private void sizeRefused(int... sizes) {
        sum(7, 0, 0, 0, 0, 0, 0, 0, 0, 0, 0, 0, 0, 0, 0, 9);
        for (int size : sizes) {
            heapRefused(ARGUMENT, size, 0, 1, 15);
        }
        due("at(0)", 7, () -> desk.at(0));
        due("at(1)", 0, () -> desk.at(1));
        due("at(15)", 9, () -> desk.at(15));
    }

    private void sizesInside() {
        heapRefused(0, 2000, 0, 8, 15);
        heapRefused(2000, 0, 0, 8, 15);
        due("the sum", "0", () -> heapsOfSum());
    }

    private void heapForgetsMoves() {
        int[][] told = {{0, 4}, {0, 9}, {5, 0}, {15, 1}};
        for (int[] one : told) {
            code(3);
            desk.heap(0, 6);
            desk.play(0);
            desk.play(0);
            desk.heap(one[0], one[1]);
            String behind = " behind heap(" + one[0] + ", " + one[1] + ")";
            due("count(3)" + behind, 0, () -> desk.count(3));
            due("undo()" + behind, STATE, () -> desk.undo());
            due("play(0)" + behind, 1, () -> desk.play(0));
        }
    }

    private void refusedHeapForgetsNothing() {
        code(3);
        desk.heap(0, 6);
        desk.play(0);
        due("heap(16, 1)", INDEX, () -> desk.heap(16, 1));
        due("heap(-1, 1)", INDEX, () -> desk.heap(-1, 1));
        due("heap(0, 2001)", ARGUMENT, () -> desk.heap(0, 2001));
        due("heap(0, -1)", ARGUMENT, () -> desk.heap(0, -1));
        due("count(3)", 1, () -> desk.count(3));
        due("undo()", 0, () -> desk.undo());
        due("at(0)", 6, () -> desk.at(0));
    }

    private void heapKeepsTheRest() {
        code(3);
        desk.analyse(9);
        desk.quotient(2);
        desk.heap(0, 1);
        due("count(0)", 9, () -> desk.count(0));
        due("count(1)", 1, () -> desk.count(1));
        due("count(4)", 2, () -> desk.count(4));
        due("classOf()", 1, () -> desk.classOf());
    }

    private void atNoPlace() {
        sum(7, 0, 0, 0, 0, 0, 0, 0, 0, 0, 0, 0, 0, 0, 0, 9);
        due("at(0)", 7, () -> desk.at(0));
        due("at(15)", 9, () -> desk.at(15));
        for (int place : new int[] {-1, 16, LEAST, GREATEST}) {
            due("at(" + place + ")", INDEX, () -> desk.at(place));
        }
    }

    private void movesOfSum() {
        holds("How many moves the sum has: none", this::noMoves);
        holds("Its MOVES are the options of its heaps, place by place, in their order", this::placeByPlace);
        holds("when a heap of the sum is none that options() takes", this::heapWithoutOptions);
        holds("(a heap that options() takes again)", this::heapWithOptionsAgain);
        holds("Of a move its place (what 0), its heaps as for option() (1, 2, 3)", this::partsOfMove);
        holds("move(): when there is no such move", () -> noSuchMove(this::moveIs));
        holds("move(): when there is no such ... what", this::noSuchWhat);
        holds("play(): when there is no such move", () -> noSuchMove(this::playIs));
        holds("wins(): when there is no such move", () -> noSuchMove(this::winsIs));
    }

    private interface MoveCall {
        void is(Object want, int move);
    }

    private void moveIs(Object want, int move) {
        due("move(" + move + ", 0)", want, () -> desk.move(move, 0));
    }

    private void playIs(Object want, int move) {
        due("play(" + move + ")", want, () -> desk.play(move));
    }

    private void winsIs(Object want, int move) {
        due("wins(" + move + ")", want, () -> desk.wins(move));
    }

    private void noMoves() {
        due("moves() without rules and heaps", 0, () -> desk.moves());
        desk.heap(3, 2000);
        due("moves() without rules", 0, () -> desk.moves());
        due("move(0, 0) without rules", INDEX, () -> desk.move(0, 0));
        code(15);
        due("moves() without heaps", 0, () -> desk.moves());
        due("move(0, 0) without heaps", INDEX, () -> desk.move(0, 0));
        due("play(0) without heaps", INDEX, () -> desk.play(0));
        due("wins(0) without heaps", INDEX, () -> desk.wins(0));
    }

    private void placeByPlace() {
        code(7, 3);
        sum(0, 3, 0, 0, 1, 0, 0, 0, 0, 0, 0, 0, 0, 0, 0, 3);
        String[] due = {"1:2+0+0", "1:1+1+0", "1:1+0+0", "4:0+0+0", "15:2+0+0", "15:1+1+0", "15:1+0+0"};
        due("moves()", due.length, () -> desk.moves());
        for (int i = 0; i < due.length; i++) {
            int move = i;
            due("move " + move, due[move], () -> moveAt(move));
        }
        sum(alike(16, 2000));
        desk.kind(SPLIT);
        due("moves() of the greatest sum", 16000, () -> desk.moves());
        due("its last move", "15:1000+1000+0", () -> moveAt(15999));
        due("none behind it", INDEX, () -> desk.move(16000, 0));
    }

    private void heapWithoutOptions() {
        for (int place : new int[] {0, 15}) {
            codeAt(12, 8);
            desk.heap(7, 5);
            desk.heap(place, 60);
            due("moves() with 60 at " + place, 192, () -> desk.moves());
            desk.heap(place, 61);
            unsupported(" with 61 at " + place);
            desk.heap(place, 2000);
            unsupported(" with 2000 at " + place);
        }
    }

    private void unsupported(String with) {
        due("moves()" + with, UNSUPPORTED, () -> desk.moves());
        due("move(0, 0)" + with, UNSUPPORTED, () -> desk.move(0, 0));
        due("play(0)" + with, UNSUPPORTED, () -> desk.play(0));
        due("wins(0)" + with, UNSUPPORTED, () -> desk.wins(0));
    }

    private void heapWithOptionsAgain() {
        code(3);
        desk.heap(4, 61);
        due("moves() without 8", 1, () -> desk.moves());
        desk.digit(9, 8);
        due("moves() with 8", UNSUPPORTED, () -> desk.moves());
        desk.kind(SPLIT);
        due("moves() with another kind", 30, () -> desk.moves());
        desk.kind(CODE);
        due("moves() with CODE again", UNSUPPORTED, () -> desk.moves());
        desk.digit(9, 0);
        due("moves() without 8 again", 1, () -> desk.moves());
        due("play(0)", 1, () -> desk.play(0));
        due("at(4)", 60, () -> desk.at(4));
    }

    private void partsOfMove() {
        code(15);
        sum(0, 0, 1, 2, 3, 0, 4);
        String[] due = {"2:0+0+0", "3:1+0+0", "4:2+0+0", "4:1+1+0", "6:3+0+0", "6:1+2+0", "6:1+1+1"};
        for (int i = 0; i < due.length; i++) {
            int move = i;
            due("move " + move, due[move], () -> moveAt(move));
        }
    }

    /** Moves of 3 at place 1 are 0 and 1, that of 1 at place 4 is 2. */
    private void noSuchMove(MoveCall call) {
        code(7);
        desk.analyse(5);
        sum(0, 3, 0, 0, 1);
        for (int move : new int[] {-1, LEAST, 3, 4, GREATEST}) {
            call.is(INDEX, move);
        }
        due("the sum", "0 3 0 0 1", () -> heapsOfSum());
        due("count(3)", 0, () -> desk.count(3));
    }

    private void noSuchWhat() {
        code(15);
        sum(4);
        due("move(2, 3)", 1, () -> desk.move(2, 3));
        for (int what : new int[] {-1, 4, 5, LEAST, GREATEST}) {
            due("move(0, " + what + ")", INDEX, () -> desk.move(0, what));
            due("move(2, " + what + ")", INDEX, () -> desk.move(2, what));
        }
    }

    private void playing() {
        holds("how many were played since heap() or the beginning", this::howManyWerePlayed);
        holds("(without a heap this place is empty)", this::placeIsEmpty);
        holds("first into the place it is made from", this::firstIntoItsPlace);
        holds("in rising order ... then into the lowest places that are empty: two", this::secondHeap);
        holds("in rising order ... then into the lowest places that are empty: three", this::thirdHeap);
    }

    private void howManyWerePlayed() {
        code(3);
        desk.heap(2, 5);
        due("the first play", 1, () -> desk.play(0));
        due("the second play", 2, () -> desk.play(0));
        due("undo()", 1, () -> desk.undo());
        due("another second play", 2, () -> desk.play(0));
        desk.digit(1, 3);
        desk.analyse(5);
        desk.quotient(2);
        due("the third play, behind other calls", 3, () -> desk.play(0));
        desk.heap(2, 2);
        due("the first play since heap()", 1, () -> desk.play(0));
        due("the second play since heap()", 2, () -> desk.play(0));
        due("no more", INDEX, () -> desk.play(0));
    }

    private void placeIsEmpty() {
        code(7);
        sum(3, 1, 2);
        due("play(2)", 1, () -> desk.play(2));
        due("the sum", "3 0 2", () -> heapsOfSum());
        due("count(2)", 2, () -> desk.count(2));
        due("play(1)", 2, () -> desk.play(1));
        due("its second heap is in the empty place", "1 1 2", () -> heapsOfSum());
    }

    private void firstIntoItsPlace() {
        code(7);
        for (int place : new int[] {0, 7, 15}) {
            sum();
            desk.heap(place, 9);
            desk.play(0);
            due("one heap at " + place, 8, () -> desk.at(place));
            sum();
            desk.heap(place, 9);
            desk.play(2);
            due("the lower heap at " + place, 2, () -> desk.at(place));
        }
    }

    private void secondHeap() {
        code(7);
        sum(0, 1, 6);
        due("play of 1 and 4", 1, () -> desk.play(2));
        due("the lowest place is below", "4 1 1", () -> heapsOfSum());
        sum(1, 1, 6);
        due("play of 2 and 3", 1, () -> desk.play(4));
        due("the lowest place is above", "1 1 2 3", () -> heapsOfSum());
        sum(1, 1, 6, 1, 1, 1, 1, 1, 1, 1, 1, 1, 1, 1, 1, 0);
        due("play of 2 and 3", 1, () -> desk.play(4));
        due("the last place", "1 1 2 1 1 1 1 1 1 1 1 1 1 1 1 3", () -> heapsOfSum());
    }

    private void thirdHeap() {
        // Of 6 the options are 5, 1+4, 2+3, 1+1+3, 1+2+2.
        code(15);
        sum(0, 1, 1, 0, 1, 6);
        due("play of 1, 1 and 3", 1, () -> desk.play(3 + 3));
        due("both places are below", "1 1 1 3 1 1", () -> heapsOfSum());
        sum(0, 1, 6, 1);
        due("play of 1, 1 and 3", 1, () -> desk.play(1 + 3));
        due("one place below, one above", "1 1 1 1 3", () -> heapsOfSum());
        sum(6);
        due("play of 1, 2 and 2", 1, () -> desk.play(4));
        due("both places are above", "1 2 2", () -> heapsOfSum());
        sum(1, 1, 1, 1, 1, 1, 1, 1, 1, 1, 1, 1, 1, 0, 0, 6);
        due("play of 1, 1 and 3", 1, () -> desk.play(13 + 3));
        due("the last places", "1 1 1 1 1 1 1 1 1 1 1 1 1 1 3 1", () -> heapsOfSum());
    }

    private void room() {
        holds("play(): IllegalStateException, when it has no room: two heaps", this::noRoomForTwo);
        holds("play(): IllegalStateException, when it has no room: three heaps", this::noRoomForThree);
        holds("(a move without room changes nothing)", this::noRoomNoChange);
        holds("(one heap or none always has room)", this::alwaysRoom);
    }

    private void noRoomForTwo() {
        code(7);
        sum(alike(16, 3));
        due("two heaps, no place", STATE, () -> desk.play(1));
        due("two heaps, no place, from the last one", STATE, () -> desk.play(31));
        desk.heap(15, 0);
        due("two heaps, the last place", 1, () -> desk.play(1));
        due("at(0)", 1, () -> desk.at(0));
        due("at(15)", 1, () -> desk.at(15));
        due("two heaps, no place again", STATE, () -> desk.play(2));
    }

    private void noRoomForThree() {
        code(15);
        sum(alike(16, 4));
        due("three heaps, no place", STATE, () -> desk.play(2));
        desk.heap(0, 0);
        due("three heaps, the first place alone", STATE, () -> desk.play(2));
        desk.heap(0, 4);
        desk.heap(15, 0);
        due("three heaps, the last place alone", STATE, () -> desk.play(2));
        desk.heap(14, 0);
        due("three heaps, two places", 1, () -> desk.play(2));
        due("the sum", "1 4 4 4 4 4 4 4 4 4 4 4 4 4 1 1", () -> heapsOfSum());
    }

    private void noRoomNoChange() {
        code(15);
        sum(4, 4, 4, 4, 4, 4, 4, 4, 4, 4, 4, 4, 4, 4, 4, 0);
        desk.play(0);
        due("three heaps, one place", STATE, () -> desk.play(4));
        due("the sum", "3 4 4 4 4 4 4 4 4 4 4 4 4 4 4", () -> heapsOfSum());
        due("count(2)", 15, () -> desk.count(2));
        due("count(3)", 1, () -> desk.count(3));
        due("undo()", 0, () -> desk.undo());
        due("the sum before", "4 4 4 4 4 4 4 4 4 4 4 4 4 4 4", () -> heapsOfSum());
    }

    private void alwaysRoom() {
        code(3);
        sum(2, 1, 1, 1, 1, 1, 1, 1, 1, 1, 1, 1, 1, 1, 1, 1);
        due("one heap", 1, () -> desk.play(0));
        due("none", 2, () -> desk.play(15));
        due("the sum", "1 1 1 1 1 1 1 1 1 1 1 1 1 1 1", () -> heapsOfSum());
    }

    private void winning() {
        holds("Whether, after a move, the exclusive or of all nimbers is 0", this::whetherItWins);
        holds("wins(): when a heap (before ...) is not in the table: that of the move", this::movedHeapNotInTable);
        holds("wins(): when a heap (before ...) is not in the table: another one", this::otherHeapNotInTable);
        holds("wins(): the table's last heap", this::lastHeapOfTable);
        holds("(wins() plays nothing)", this::winsPlaysNothing);
    }

    private void winsAre(String due) {
        StringBuilder all = new StringBuilder();
        int moves = desk.moves();
        for (int move = 0; move < moves; move++) {
            all.append(desk.wins(move) ? '1' : '0');
        }
        due("wins() of all moves", due, all::toString);
    }

    private void whetherItWins() {
        // Nimbers of Kayles: 0 1 2 3 1 4. Of 5 the options 4, 1+3, 2+2, 3, 1+2 have 1, 2, 0, 3, 3.
        code(7, 7);
        desk.analyse(5);
        sum(5);
        winsAre("00100");
        sum(5, 1);
        winsAre("100000");
        sum(5, 0, 2);
        winsAre("0100000");
        sum(5, 0, 0, 3);
        winsAre("00011000");
        sum(2, 2);
        winsAre("0000");
        sum(0, 1);
        winsAre("1");
        // Nimbers are 0 1 0 0 0 1 2 now. Of 9 the options are 1+1+6, 1+2+5, 1+3+4, 2+2+4, 2+3+3.
        code(9);
        desk.analyse(9);
        sum(9);
        winsAre("01011");
        sum(9, 1);
        winsAre("001000");
    }

    private void movedHeapNotInTable() {
        code(3);
        desk.heap(3, 5);
        due("wins(0) of 5 with a new table", STATE, () -> desk.wins(0));
        desk.analyse(4);
        due("wins(0) of 5, to 4, with a table up to 4", STATE, () -> desk.wins(0));
        codeAt(5, 1);
        desk.heap(3, 5);
        desk.analyse(4);
        due("wins(0) of 5, to none, with a table up to 4", STATE, () -> desk.wins(0));
        desk.analyse(5);
        due("wins(0) of 5, to none, with a table up to 5", true, () -> desk.wins(0));
    }

    private void otherHeapNotInTable() {
        code(3);
        desk.analyse(4);
        sum(2, 0, 5);
        due("wins(0) of 2, to 1, beside 5", STATE, () -> desk.wins(0));
        sum(5, 0, 2);
        due("wins(1) of 2, to 1, beside 5", STATE, () -> desk.wins(1));
        desk.analyse(5);
        due("wins(1) with a table up to 5", true, () -> desk.wins(1));
        desk.digit(1, 3);
        due("wins(1), the table being gone", STATE, () -> desk.wins(1));
    }

    private void lastHeapOfTable() {
        code(3);
        desk.heap(15, 2000);
        desk.analyse(1999);
        due("wins(0) of 2000 with a table up to 1999", STATE, () -> desk.wins(0));
        desk.analyse(2000);
        due("wins(0) of 2000 with a table up to 2000", false, () -> desk.wins(0));
        desk.heap(15, 1999);
        due("wins(0) of 1999", true, () -> desk.wins(0));
    }

    private void winsPlaysNothing() {
        code(7);
        desk.analyse(5);
        sum(5, 1);
        desk.wins(1);
        due("the sum", "5 1", () -> heapsOfSum());
        due("count(3)", 0, () -> desk.count(3));
        due("undo()", STATE, () -> desk.undo());
    }

    private void takingBack() {
        holds("Takes back the latest move that was played: how many are left", this::undoLatest);
        holds("undo(): a move to none", this::undoMoveToNone);
        holds("undo(): moves to two and three heaps, in whatever places", this::undoMoveToMore);
        holds("(the rule may be another one now)", this::undoBehindOtherRule);
        holds("undo(): IllegalStateException, when there is none", this::nothingToUndo);
        holds("(undo() leaves the table and the quotient)", this::undoKeepsTheRest);
    }

    private void undoLatest() {
        code(3, 3);
        sum(9, 4);
        desk.play(0);
        desk.play(3);
        desk.play(1);
        due("the sum", "6 2", () -> heapsOfSum());
        due("undo()", 2, () -> desk.undo());
        due("the sum behind one", "8 2", () -> heapsOfSum());
        due("undo() again", 1, () -> desk.undo());
        due("the sum behind two", "8 4", () -> heapsOfSum());
        due("undo() once more", 0, () -> desk.undo());
        due("the sum behind three", "9 4", () -> heapsOfSum());
    }

    private void undoMoveToNone() {
        code(3);
        sum(1, 0, 1);
        desk.play(1);
        desk.play(0);
        due("the sum", "0", () -> heapsOfSum());
        due("undo()", 1, () -> desk.undo());
        due("the sum behind one", "1", () -> heapsOfSum());
        due("undo() again", 0, () -> desk.undo());
        due("the sum behind two", "1 0 1", () -> heapsOfSum());
    }

    private void undoMoveToMore() {
        code(15);
        sum(0, 1, 0, 6, 1);
        desk.play(1 + 4);
        due("1, 2 and 2", "2 1 2 1 1", () -> heapsOfSum());
        desk.play(0);
        desk.play(0);
        due("the first heap taken away", "0 1 2 1 1", () -> heapsOfSum());
        due("undo()", 2, () -> desk.undo());
        due("undo() again", 1, () -> desk.undo());
        due("undo() once more", 0, () -> desk.undo());
        due("the sum of the beginning", "0 1 0 6 1", () -> heapsOfSum());
        sum(0, 1, 1, 5);
        desk.play(2 + 1);
        due("1 and 3", "3 1 1 1", () -> heapsOfSum());
        due("undo()", 0, () -> desk.undo());
        due("the sum of the beginning", "0 1 1 5", () -> heapsOfSum());
    }

    private void undoBehindOtherRule() {
        for (int kind : KINDS) {
            code(15);
            sum(0, 7);
            desk.play(5);
            due("1, 2 and 3", "2 1 3", () -> heapsOfSum());
            desk.digit(1, 0);
            desk.kind(kind);
            due("undo() with kind " + kind, 0, () -> desk.undo());
            due("the sum with kind " + kind, "0 7", () -> heapsOfSum());
        }
        code(3);
        sum(61);
        desk.play(0);
        desk.digit(2, 8);
        due("undo() to a heap that options() does not take", 0, () -> desk.undo());
        due("at(0)", 61, () -> desk.at(0));
        due("moves()", UNSUPPORTED, () -> desk.moves());
    }

    private void nothingToUndo() {
        due("undo() of a new object", STATE, () -> desk.undo());
        code(3);
        desk.heap(0, 3);
        due("undo() behind heap()", STATE, () -> desk.undo());
        desk.play(0);
        desk.undo();
        due("undo() behind all", STATE, () -> desk.undo());
        due("at(0)", 3, () -> desk.at(0));
        due("count(3)", 0, () -> desk.count(3));
        due("play(0)", 1, () -> desk.play(0));
    }

    private void undoKeepsTheRest() {
        code(3);
        desk.heap(0, 3);
        desk.analyse(3);
        desk.quotient(3);
        desk.play(0);
        desk.undo();
        due("count(0)", 3, () -> desk.count(0));
        due("count(4)", 2, () -> desk.count(4));
        due("classOf()", 1, () -> desk.classOf());
    }

    private void values() {
        holds("The exclusive or of the sum's nimbers", this::exclusiveOr);
        holds("value(): when a heap is not in the table", this::valueNotInTable);
    }

    private void exclusiveOr() {
        due("value() of no heaps, in a new table", 0, () -> desk.value());
        code(3, 3, 3);
        desk.analyse(7);
        sum(0, 0, 3);
        due("value() of 3", 3, () -> desk.value());
        sum(3, 0, 2);
        due("value() of 3 and 2", 1, () -> desk.value());
        sum(3, 0, 0, 0, 0, 0, 0, 0, 0, 0, 0, 0, 0, 0, 0, 7);
        due("value() of 3 and 7", 0, () -> desk.value());
        sum(4, 4);
        due("value() of 4 and 4", 0, () -> desk.value());
        sum(alike(15, 2));
        due("value() of fifteen alike", 2, () -> desk.value());
        sum(alike(16, 2));
        due("value() of sixteen alike", 0, () -> desk.value());
    }

    private void valueNotInTable() {
        code(3);
        for (int place : new int[] {0, 15}) {
            sum();
            desk.heap(place, 1);
            desk.analyse(0);
            due("value() of 1 at " + place + " in the table of heap 0", STATE, () -> desk.value());
            desk.analyse(1);
            due("value() of 1 at " + place, 1, () -> desk.value());
            desk.heap(place, 2000);
            desk.analyse(1999);
            due("value() of 2000 at " + place + " in a table up to 1999", STATE, () -> desk.value());
            desk.analyse(2000);
            due("value() of 2000 at " + place, 0, () -> desk.value());
        }
        desk.digit(1, 3);
        due("value(), the table being gone", STATE, () -> desk.value());
        sum();
        due("value() of no heaps, the table being gone", 0, () -> desk.value());
    }

    private void counts() {
        holds("count(): heaps of the sum (2)", this::countOfHeaps);
        holds("count(): moves that were played (3)", this::countOfMoves);
    }

    private void countOfHeaps() {
        due("count(2) of none", 0, () -> desk.count(2));
        desk.heap(15, 1);
        due("count(2) of one", 1, () -> desk.count(2));
        desk.heap(15, 2000);
        due("count(2) of another one", 1, () -> desk.count(2));
        sum(alike(16, 3));
        due("count(2) of all", 16, () -> desk.count(2));
        desk.heap(7, 0);
        due("count(2) of all but one", 15, () -> desk.count(2));
        desk.digit(1, 7);
        desk.play(1);
        due("count(2) behind a move to two", 16, () -> desk.count(2));
        desk.undo();
        due("count(2) behind undo()", 15, () -> desk.count(2));
    }

    private void countOfMoves() {
        code(3);
        desk.heap(0, 4);
        for (int i = 0; i <= 4; i++) {
            int played = i;
            due("count(3) behind " + played, played, () -> desk.count(3));
            Check.outcome(() -> desk.play(0));
        }
        due("count(3) behind a move that there is not", 4, () -> desk.count(3));
        desk.undo();
        due("count(3) behind undo()", 3, () -> desk.count(3));
        desk.kind(SPLIT);
        due("count(3) behind kind()", 3, () -> desk.count(3));
    }

    private void lifeOfObject() {
        holds("An object is used for at most 512 calls: all of them moves", this::manyMoves);
        holds("An object is used for at most 512 calls: moves and taking back", this::manyMovesBack);
    }

    private void manyMoves() {
        code(2);
        desk.heap(15, 2000);
        for (int i = 1; i <= 510; i++) {
            int move = i;
            due("play " + move, move, () -> desk.play(0));
        }
        due("calls that are left", 0, () -> desk.callsLeft());
    }

    private void manyMovesBack() {
        code(2);
        desk.heap(15, 2000);
        for (int i = 1; i <= 254; i++) {
            desk.play(0);
        }
        due("the heap behind 254 moves", 1746, () -> desk.at(15));
        for (int i = 253; i >= 0; i--) {
            int left = i;
            due("undo() to " + left, left, () -> desk.undo());
        }
        due("the heap of the beginning", 2000, () -> desk.at(15));
        due("calls that are left", 0, () -> desk.callsLeft());
    }
}
