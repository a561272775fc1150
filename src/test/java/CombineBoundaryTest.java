/** The boundary cases that promise 3 names, sentence by sentence. */
public final class CombineBoundaryTest {
    private static final Checks CHECKS = new Checks();
    private static final int MIN = Checks.MIN;
    private static final int MAX = Checks.MAX;
    private static final int[] NONE = {};

    public static void main(String[] args) {
        CHECKS.sentence("Promise 3", "0 x + y", CombineBoundaryTest::sums);
        CHECKS.sentence("Promise 3", "1 x - y", CombineBoundaryTest::differences);
        CHECKS.sentence("Promise 3", "2 x * y", CombineBoundaryTest::products);
        CHECKS.sentence("Promise 3", "3 the lesser of x and y", CombineBoundaryTest::lesser);
        CHECKS.sentence("Promise 3", "4 the greater of x and y", CombineBoundaryTest::greater);
        CHECKS.sentence("Promise 3", "5 1 if x < y, else 0", CombineBoundaryTest::less);
        CHECKS.sentence("Promise 3", "6 1 if x = y, else 0", CombineBoundaryTest::equal);
        CHECKS.sentence("Promise 3", "7 keep: the cells of a, in their order, at whose place b has a cell other than 0",
                CombineBoundaryTest::keep);
        CHECKS.sentence("Promise 3", "8 repeat: for each place in order, the cell x as many times as y says",
                CombineBoundaryTest::repeat);
        CHECKS.sentence("Promise 3", "(not at all if y is 0 or below)", CombineBoundaryTest::notAtAll);
        CHECKS.sentence("Promise 3", "9 join: the cells of a followed by the cells of b", CombineBoundaryTest::join);
        CHECKS.sentence("Promise 3", "10 fetch: for each cell y of b in order, the cell of a at the place y",
                CombineBoundaryTest::fetch);
        CHECKS.sentence("Promise 3", "Refused too if op is not from 0 to 10", CombineBoundaryTest::wrongOperation);
        CHECKS.sentence("Promise 3", "for op 0 to 8 if a and b have different numbers of cells",
                CombineBoundaryTest::differentNumbersOfCells);
        CHECKS.sentence("Promise 3, op 8", "for op 8 and 9 if the result would have more than 64 cells",
                CombineBoundaryTest::repeatOfMoreThan64Cells);
        CHECKS.sentence("Promise 3, op 9", "for op 8 and 9 if the result would have more than 64 cells",
                CombineBoundaryTest::joinOfMoreThan64Cells);
        CHECKS.sentence("Promise 3", "(op 8: each y counts with its full size)", CombineBoundaryTest::fullSize);
        CHECKS.sentence("Promise 3", "for op 10 if some y is not a place of a", CombineBoundaryTest::noPlace);
        CHECKS.sentence("Promise 3", "Otherwise answers the number of cells of the target then.",
                CombineBoundaryTest::theNumberOfCellsThen);
        CHECKS.end();
    }

    private static void sums() {
        CHECKS.combines(0, Checks.row(MAX, MIN, MAX, MIN), Checks.row(1, -1, MIN, 0), MIN, MAX, -1, MIN);
        CHECKS.combines(0, Checks.upFrom(0, 64), Checks.times(64, MAX), Checks.upFrom(MAX, 64));
        CHECKS.combines(0, NONE, NONE);
    }

    private static void differences() {
        CHECKS.combines(1, Checks.row(MIN, MAX, 0, -1), Checks.row(1, -1, MIN, MAX), MAX, MIN, MIN, MIN);
        CHECKS.combines(1, Checks.upFrom(0, 64), Checks.times(64, MIN), Checks.upFrom(MIN, 64));
        CHECKS.combines(1, NONE, NONE);
    }

    private static void products() {
        CHECKS.combines(2, Checks.row(MAX, MIN, MIN, 46341, 0), Checks.row(MAX, MIN, -1, 46341, MIN),
                1, 0, MIN, -2147479015, 0);
        CHECKS.combines(2, Checks.upFrom(-32, 64), Checks.times(64, 1), Checks.upFrom(-32, 64));
        CHECKS.combines(2, NONE, NONE);
    }

    // MIN and MAX stand together, since their difference wraps.
    private static final int[] X = {5, 5, 4, MIN, MAX, MIN, -1, 0, MAX, MIN};
    private static final int[] Y = {5, 4, 5, MAX, MIN, 1, MAX, MIN, MAX, MIN};

    private static void lesser() {
        CHECKS.combines(3, X, Y, 5, 4, 4, MIN, MIN, MIN, -1, MIN, MAX, MIN);
        CHECKS.combines(3, Checks.upFrom(0, 64), Checks.times(64, 63), Checks.upFrom(0, 64));
        CHECKS.combines(3, NONE, NONE);
    }

    private static void greater() {
        CHECKS.combines(4, X, Y, 5, 5, 5, MAX, MAX, 1, MAX, 0, MAX, MIN);
        CHECKS.combines(4, Checks.upFrom(0, 64), Checks.times(64, 0), Checks.upFrom(0, 64));
        CHECKS.combines(4, NONE, NONE);
    }

    private static void less() {
        CHECKS.combines(5, X, Y, 0, 0, 1, 1, 0, 1, 1, 0, 0, 0);
        CHECKS.combines(5, Checks.times(64, -1), Checks.times(64, 0), Checks.times(64, 1));
        CHECKS.combines(5, NONE, NONE);
    }

    private static void equal() {
        CHECKS.combines(6, X, Y, 1, 0, 0, 0, 0, 0, 0, 0, 1, 1);
        CHECKS.combines(6, Checks.times(64, 1000), Checks.times(64, 1000), Checks.times(64, 1));
        CHECKS.combines(6, NONE, NONE);
    }

    private static void keep() {
        CHECKS.combines(7, Checks.row(1, 2, 3, 4, 5, 6, 7), Checks.row(0, 1, -1, 0, MIN, MAX, 65536), 2, 3, 5, 6, 7);
        CHECKS.combines(7, Checks.row(0, 0, 9), Checks.row(1, 1, 0), 0, 0);
        CHECKS.combines(7, Checks.upFrom(1, 64), Checks.times(64, -1), Checks.upFrom(1, 64));
        CHECKS.combines(7, Checks.upFrom(1, 64), Checks.times(64, 0));
        CHECKS.combines(7, Checks.upFrom(1, 64), Checks.upFrom(0, 64), Checks.upFrom(2, 63));
        CHECKS.combines(7, Checks.upFrom(1, 64), Checks.upFrom(-63, 64), Checks.upFrom(1, 63));
        CHECKS.combines(7, NONE, NONE);
    }

    private static void repeat() {
        CHECKS.combines(8, Checks.row(7, 0, MIN), Checks.row(1, 2, 3), 7, 0, 0, MIN, MIN, MIN);
        CHECKS.combines(8, Checks.row(7), Checks.row(1), 7);
        CHECKS.combines(8, Checks.row(7), Checks.row(64), Checks.times(64, 7));
        CHECKS.combines(8, Checks.upFrom(1, 64), Checks.times(64, 1), Checks.upFrom(1, 64));
        CHECKS.combines(8, NONE, NONE);
    }

    private static void notAtAll() {
        for (int y : new int[] {0, -1, -64, -65, MIN}) {
            CHECKS.combines(8, Checks.row(7), Checks.row(y));
            CHECKS.combines(8, Checks.row(7, 8, 9), Checks.row(2, y, 1), 7, 7, 9);
            CHECKS.combines(8, Checks.row(7, 8), Checks.row(y, 64), Checks.times(64, 8));
            CHECKS.combines(8, Checks.row(7, 8), Checks.row(64, y), Checks.times(64, 7));
            CHECKS.combines(8, Checks.upFrom(1, 64), Checks.times(64, y));
        }
        // As ints these add up to MAX and to 100.
        CHECKS.combines(8, Checks.row(7, 8), Checks.row(MIN, -1));
        CHECKS.combines(8, Checks.row(7, 8), Checks.row(MIN, MIN + 100));
    }

    private static void join() {
        CHECKS.combines(9, NONE, NONE);
        CHECKS.combines(9, NONE, Checks.row(1, 2), 1, 2);
        CHECKS.combines(9, Checks.row(1, 2), NONE, 1, 2);
        CHECKS.combines(9, Checks.row(1), Checks.row(2), 1, 2);
        CHECKS.combines(9, NONE, Checks.upFrom(1, 64), Checks.upFrom(1, 64));
        CHECKS.combines(9, Checks.upFrom(1, 64), NONE, Checks.upFrom(1, 64));
    }

    private static void fetch() {
        CHECKS.combines(10, Checks.row(7, 8), Checks.row(1, 1, 0), 8, 8, 7);
        CHECKS.combines(10, Checks.row(7), Checks.times(64, 0), Checks.times(64, 7));
        CHECKS.combines(10, Checks.upFrom(5, 64), Checks.upFrom(0, 64), Checks.upFrom(5, 64));
        CHECKS.combines(10, Checks.upFrom(5, 64), Checks.row(63), 68);
        CHECKS.combines(10, Checks.row(7, 8), NONE);
        CHECKS.combines(10, NONE, NONE);
    }

    private static void wrongOperation() {
        for (int op : new int[] {-1, -2, 11, 12, 16, 256, 265, MIN, MAX}) {
            CHECKS.refusesToCombine(op, Checks.row(1, 0), Checks.row(0, 1));
            CHECKS.refusesToCombine(op, Checks.row(1, 0), Checks.row(0));
            CHECKS.refusesToCombine(op, NONE, NONE);
        }
        for (int op = 0; op <= 10; op++) {
            CHECKS.combines(op, NONE, NONE);
        }
    }

    private static void differentNumbersOfCells() {
        for (int op = 0; op <= 8; op++) {
            CHECKS.refusesToCombine(op, NONE, Checks.row(0));
            CHECKS.refusesToCombine(op, Checks.row(0), NONE);
            CHECKS.refusesToCombine(op, Checks.row(0), Checks.row(0, 0));
            CHECKS.refusesToCombine(op, Checks.row(0, 0), Checks.row(0));
            CHECKS.refusesToCombine(op, Checks.times(63, 0), Checks.times(64, 0));
            CHECKS.refusesToCombine(op, Checks.times(64, 0), Checks.times(63, 0));
            CHECKS.refusesToCombine(op, Checks.times(64, 0), NONE);
            CHECKS.refusesToCombine(op, NONE, Checks.times(64, 0));
        }
        // Operations 9 and 10 are not among them.
        CHECKS.combines(9, Checks.row(7), Checks.row(0, 0), 7, 0, 0);
        CHECKS.combines(10, Checks.row(7), Checks.row(0, 0), 7, 7);
        CHECKS.combines(10, Checks.row(7, 8), Checks.row(1), 8);
    }

    private static void repeatOfMoreThan64Cells() {
        CHECKS.combines(8, Checks.row(7), Checks.row(64), Checks.times(64, 7));
        CHECKS.refusesToCombine(8, Checks.row(7), Checks.row(65));
        int[] ones = Checks.times(64, 1);
        int[] oneTwo = Checks.times(64, 1);
        for (int place = 0; place < 64; place++) {
            oneTwo[place] = 2;
            CHECKS.refusesToCombine(8, ones, oneTwo);
            oneTwo[place] = 1;
        }
        for (int first = 1; first <= 64; first++) {
            CHECKS.refusesToCombine(8, Checks.row(7, 7), Checks.row(first, 65 - first));
            CHECKS.combines(8, Checks.row(7, 7), Checks.row(first, 64 - first), Checks.times(64, 7));
        }
        CHECKS.combines(8, Checks.row(7, 8, 9), Checks.row(MIN, -5, 2), 9, 9);
        // The 65th cell counts wherever it stands, and a y below 0 makes no room for it.
        CHECKS.refusesToCombine(8, Checks.row(7, 8, 9), Checks.row(64, 0, 1));
        CHECKS.refusesToCombine(8, Checks.row(7, 8, 9), Checks.row(64, -1, 1));
        CHECKS.refusesToCombine(8, Checks.row(7, 8, 9), Checks.row(-5, 64, 1));
    }

    private static void joinOfMoreThan64Cells() {
        for (int first = 0; first <= 64; first++) {
            for (int second = 0; second <= 64; second++) {
                RunVectors x = new RunVectors();
                fill(x, 0, 7, first);
                fill(x, 1, 8, second);
                boolean fits = first + second <= 64;
                String call = "join of " + first + " and " + second;
                CHECKS.due(call, x.combine(2, 9, 0, 1), fits ? first + second : -1);
                CHECKS.due("length behind the " + call, x.length(2), fits ? first + second : 0);
                CHECKS.due("cells of a behind the " + call, x.between(2, 7, 7), fits ? first : 0);
                CHECKS.due("cells of b behind the " + call, x.between(2, 8, 8), fits ? second : 0);
            }
        }
        CHECKS.refusesToCombine(9, Checks.upFrom(1, 64), Checks.row(5));
        CHECKS.refusesToCombine(9, Checks.row(5), Checks.upFrom(1, 64));
        CHECKS.refusesToCombine(9, Checks.upFrom(1, 33), Checks.upFrom(1, 32));
    }

    private static void fill(RunVectors x, int vector, int value, int count) {
        if (count > 0) {
            x.push(vector, value, count);
        }
    }

    private static void fullSize() {
        for (int y : new int[] {65, 127, 128, 255, 256, 257, 32768, 65535, 65536, 65537, 1 << 30, MAX - 1, MAX}) {
            CHECKS.refusesToCombine(8, Checks.row(7), Checks.row(y));
            CHECKS.refusesToCombine(8, Checks.row(7, 8), Checks.row(1, y));
            CHECKS.refusesToCombine(8, Checks.row(7, 8), Checks.row(y, 1));
            CHECKS.refusesToCombine(8, Checks.row(7, 8), Checks.row(y, MIN));
            CHECKS.refusesToCombine(8, Checks.row(7, 8), Checks.row(MIN, y));
            CHECKS.refusesToCombine(8, Checks.row(7, 8), Checks.row(y, -y));
        }
        // As ints these add up to 64, 2, 0, 0 and 64.
        CHECKS.refusesToCombine(8, Checks.row(7, 8, 9), Checks.row(MAX, MAX, 66));
        CHECKS.refusesToCombine(8, Checks.row(7, 8, 9), Checks.row(MAX, MAX, 4));
        CHECKS.refusesToCombine(8, Checks.times(4, 7), Checks.times(4, 1 << 30));
        CHECKS.refusesToCombine(8, Checks.times(64, 7), Checks.times(64, 1 << 26));
        CHECKS.refusesToCombine(8, Checks.times(64, 7), Checks.times(64, (1 << 26) + 1));
        CHECKS.refusesToCombine(8, Checks.times(64, 7), Checks.times(64, MAX));
        // As ints these add up below 0.
        CHECKS.refusesToCombine(8, Checks.row(7, 8), Checks.row(MAX, 1));
        CHECKS.refusesToCombine(8, Checks.row(7, 8), Checks.row(1, MAX));
    }

    private static void noPlace() {
        for (int y : new int[] {-1, 3, 4, 63, 64, 65, 256, 65536, MIN, MAX}) {
            CHECKS.refusesToCombine(10, Checks.row(7, 8, 9), Checks.row(y));
            CHECKS.refusesToCombine(10, Checks.row(7, 8, 9), Checks.row(y, 0, 1));
            CHECKS.refusesToCombine(10, Checks.row(7, 8, 9), Checks.row(0, y, 1));
            CHECKS.refusesToCombine(10, Checks.row(7, 8, 9), Checks.row(0, 1, y));
        }
        CHECKS.refusesToCombine(10, NONE, Checks.row(0));
        CHECKS.refusesToCombine(10, NONE, Checks.row(-1));
        CHECKS.refusesToCombine(10, Checks.upFrom(1, 64), Checks.row(64));
        CHECKS.refusesToCombine(10, Checks.upFrom(1, 64), Checks.row(-1));
        CHECKS.refusesToCombine(10, Checks.upFrom(1, 64), Checks.upFrom(1, 64));
        CHECKS.combines(10, Checks.row(7, 8, 9), Checks.row(0, 2), 7, 9);
        aShortenedVectorHasNoPlaceBehindItsEnd();
    }

    private static void aShortenedVectorHasNoPlaceBehindItsEnd() {
        RunVectors x = Checks.with(Checks.row(7, 8, 9), Checks.row(2));
        x.change(0, 4, 0, 2);
        CHECKS.due("combine(2, 10, 0, 1) of a shortened vector", x.combine(2, 10, 0, 1), -1);
        CHECKS.holds("combine(2, 10, 0, 1) of a shortened vector", x, Checks.row(7, 8), Checks.row(2), NONE, NONE);
    }

    /** The target's earlier cells are gone, whether it was longer or shorter before. */
    private static void theNumberOfCellsThen() {
        for (int op = 0; op <= 10; op++) {
            for (int before : new int[] {0, 1, 2, 3, 64}) {
                replaces(op, before, NONE, NONE, 0);
                replaces(op, before, Checks.row(1, 1), Checks.row(1, 1), op == 9 ? 4 : 2);
            }
        }
        replaces(7, 64, Checks.row(1, 1), Checks.row(0, 0), 0);
        replaces(8, 64, Checks.row(1, 1), Checks.row(0, 0), 0);
        replaces(8, 0, Checks.row(1, 1), Checks.row(32, 32), 64);
        replaces(9, 0, Checks.times(32, 1), Checks.times(32, 1), 64);
        replaces(10, 0, Checks.row(1), Checks.times(64, 0), 64);
        replaces(0, 0, Checks.times(64, 1), Checks.times(64, 1), 64);
    }

    private static void replaces(int op, int before, int[] a, int[] b, int want) {
        RunVectors x = Checks.with(a, b, Checks.times(before, 50));
        String call = "combine(2, " + op + ", 0, 1) on a target of " + before;
        CHECKS.due(call, x.combine(2, op, 0, 1), want);
        CHECKS.due("length behind " + call, x.length(2), want);
        CHECKS.due("old cells behind " + call, x.find(2, 50, 0), -1);
        CHECKS.due("the place at the end behind " + call, x.at(2, want), 0);
    }
}
