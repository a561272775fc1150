/** The boundary cases that promise 4 names, sentence by sentence. */
public final class ChangeBoundaryTest {
    private static final Checks CHECKS = new Checks();
    private static final int MIN = Checks.MIN;
    private static final int MAX = Checks.MAX;
    private static final int[] NONE = {};
    private static final int[] NUMBERS = {0, 1, -1, 2, 3, 63, 64, 65, -64, 256, 65536, MAX, MIN};

    public static void main(String[] args) {
        CHECKS.sentence("Promise 4", "the number k (which is not looked at where it isn't named)",
                ChangeBoundaryTest::anyNumber);
        CHECKS.sentence("Promise 4", "0 k + x for each cell x", ChangeBoundaryTest::sums);
        CHECKS.sentence("Promise 4", "1 k * x for each cell x", ChangeBoundaryTest::products);
        CHECKS.sentence("Promise 4", "2 the cells in reverse order", ChangeBoundaryTest::reverse);
        CHECKS.sentence("Promise 4", "3 the cells sorted ascending", ChangeBoundaryTest::sorted);
        CHECKS.sentence("Promise 4", "4 the first k cells", ChangeBoundaryTest::firstCells);
        CHECKS.sentence("Promise 4", "5 all but the first k cells", ChangeBoundaryTest::allButTheFirst);
        CHECKS.sentence("Promise 4", "6 turned: the cell at place i of the result is the cell of a at the place"
                + " (i + k) modulo the number of cells", ChangeBoundaryTest::turned);
        CHECKS.sentence("Promise 4", "(for any k; the remainder is taken from 0 up)",
                ChangeBoundaryTest::turnedByAnyNumber);
        CHECKS.sentence("Promise 4", "7 running sums: the cell at place i is the sum of the cells 0 to i of a",
                ChangeBoundaryTest::runningSums);
        CHECKS.sentence("Promise 4", "8 running greatest: the cell at place i is the greatest of the cells 0 to i of a",
                ChangeBoundaryTest::runningGreatest);
        CHECKS.sentence("Promise 4", "9 places: the places, ascending, at which a has a cell other than 0",
                ChangeBoundaryTest::places);
        CHECKS.sentence("Promise 4", "10 steps: the first cell of every stretch (a stretch is a longest row of equal"
                + " neighbouring cells)", ChangeBoundaryTest::steps);
        CHECKS.sentence("Promise 4", "11 differences: the cell at place 0 as it is",
                ChangeBoundaryTest::firstDifference);
        CHECKS.sentence("Promise 4", "and at each later place i the cell i less the cell i - 1",
                ChangeBoundaryTest::laterDifferences);
        CHECKS.sentence("Promise 4", "Refused too if op is not from 0 to 11", ChangeBoundaryTest::wrongOperation);
        CHECKS.sentence("Promise 4, op 4", "for op 4 and 5 if k is not from 0 to the number of cells",
                () -> wrongNumber(4));
        CHECKS.sentence("Promise 4, op 5", "for op 4 and 5 if k is not from 0 to the number of cells",
                () -> wrongNumber(5));
        CHECKS.sentence("Promise 4", "Otherwise answers the number of cells of the target then.",
                ChangeBoundaryTest::theNumberOfCellsThen);
        CHECKS.end();
    }

    private static void anyNumber() {
        int[] a = {4, 0, 0, -2, 4};
        for (int k : NUMBERS) {
            CHECKS.changes(2, k, a, 4, -2, 0, 0, 4);
            CHECKS.changes(3, k, a, -2, 0, 0, 4, 4);
            CHECKS.changes(7, k, a, 4, 4, 4, 2, 6);
            CHECKS.changes(8, k, a, 4, 4, 4, 4, 4);
            CHECKS.changes(9, k, a, 0, 3, 4);
            CHECKS.changes(10, k, a, 4, 0, -2, 4);
            CHECKS.changes(11, k, a, 4, -4, 0, -2, 6);
            for (int op : new int[] {2, 3, 7, 8, 9, 10, 11}) {
                CHECKS.changes(op, k, NONE);
            }
        }
    }

    private static void sums() {
        int[] a = {0, 1, -1, MAX, MIN};
        CHECKS.changes(0, 0, a, a);
        CHECKS.changes(0, 1, a, 1, 2, 0, MIN, MIN + 1);
        CHECKS.changes(0, -1, a, -1, 0, -2, MAX - 1, MAX);
        CHECKS.changes(0, MAX, a, MAX, MIN, MAX - 1, -2, -1);
        CHECKS.changes(0, MIN, a, MIN, MIN + 1, MAX, -1, 0);
        CHECKS.changes(0, 5, Checks.upFrom(0, 64), Checks.upFrom(5, 64));
        CHECKS.changes(0, 5, NONE);
    }

    private static void products() {
        int[] a = {0, 1, -1, MAX, MIN, 3};
        CHECKS.changes(1, 0, a, 0, 0, 0, 0, 0, 0);
        CHECKS.changes(1, 1, a, a);
        CHECKS.changes(1, -1, a, 0, -1, 1, -MAX, MIN, -3);
        CHECKS.changes(1, MAX, a, 0, MAX, -MAX, 1, MIN, MAX - 2);
        CHECKS.changes(1, MIN, a, 0, MIN, MIN, MIN, 0, MIN);
        CHECKS.changes(1, 1, Checks.upFrom(0, 64), Checks.upFrom(0, 64));
        CHECKS.changes(1, 5, NONE);
    }

    private static int[] downFrom(int first, int count) {
        int[] cells = new int[count];
        for (int i = 0; i < count; i++) {
            cells[i] = first - i;
        }
        return cells;
    }

    private static void reverse() {
        for (int count = 0; count <= 64; count++) {
            CHECKS.changes(2, 0, Checks.upFrom(1, count), downFrom(count, count));
        }
    }

    private static void sorted() {
        for (int count = 0; count <= 64; count++) {
            CHECKS.changes(3, 0, downFrom(count, count), Checks.upFrom(1, count));
            CHECKS.changes(3, 0, Checks.upFrom(1, count), Checks.upFrom(1, count));
        }
        // MIN and MAX stand together, since their difference wraps.
        CHECKS.changes(3, 0, Checks.row(MAX, MIN), MIN, MAX);
        CHECKS.changes(3, 0, Checks.row(MIN, MAX), MIN, MAX);
        CHECKS.changes(3, 0, Checks.row(MAX, 0, MIN, -1, 1, MAX, MIN, 0), MIN, MIN, -1, 0, 0, 1, MAX, MAX);
        CHECKS.changes(3, 0, Checks.times(64, MIN), Checks.times(64, MIN));
    }

    private static void firstCells() {
        for (int count : new int[] {0, 1, 2, 3, 63, 64}) {
            for (int k = 0; k <= count; k++) {
                CHECKS.changes(4, k, Checks.upFrom(1, count), Checks.upFrom(1, k));
            }
        }
    }

    private static void allButTheFirst() {
        for (int count : new int[] {0, 1, 2, 3, 63, 64}) {
            for (int k = 0; k <= count; k++) {
                CHECKS.changes(5, k, Checks.upFrom(1, count), Checks.upFrom(1 + k, count - k));
            }
        }
    }

    private static void turned() {
        CHECKS.changes(6, 0, NONE);
        CHECKS.changes(6, 1, NONE);
        CHECKS.changes(6, 0, Checks.row(7), 7);
        CHECKS.changes(6, 1, Checks.row(7), 7);
        CHECKS.changes(6, 1, Checks.row(7, 8, 9), 8, 9, 7);
        CHECKS.changes(6, 2, Checks.row(7, 8, 9), 9, 7, 8);
        for (int k = 0; k < 64; k++) {
            CHECKS.changes(6, k, Checks.upFrom(0, 64), turn(k, 64));
        }
    }

    private static void turnedByAnyNumber() {
        for (int count : new int[] {0, 1, 2, 3, 5, 7, 63, 64}) {
            for (int k = -2 * count - 1; k <= 2 * count + 1; k++) {
                CHECKS.changes(6, k, Checks.upFrom(0, count), turn(k, count));
            }
            for (int k : new int[] {MIN, MIN + 1, MIN + 62, MIN + 63, MAX - 63, MAX - 62, MAX - 1, MAX}) {
                CHECKS.changes(6, k, Checks.upFrom(0, count), turn(k, count));
            }
        }
        CHECKS.changes(6, -1, Checks.row(7, 8, 9), 9, 7, 8);
        CHECKS.changes(6, 3, Checks.row(7, 8, 9), 7, 8, 9);
        CHECKS.changes(6, -3, Checks.row(7, 8, 9), 7, 8, 9);
        // 2147483647 = 3 * 715827882 + 1 and -2147483648 = 3 * -715827883 + 1
        CHECKS.changes(6, MAX, Checks.row(7, 8, 9), 8, 9, 7);
        CHECKS.changes(6, MIN, Checks.row(7, 8, 9), 8, 9, 7);
    }

    private static int[] turn(int k, int count) {
        int[] cells = new int[count];
        for (int i = 0; i < count; i++) {
            cells[i] = Math.floorMod((long) i + k, count);
        }
        return cells;
    }

    private static void runningSums() {
        CHECKS.changes(7, 0, NONE);
        CHECKS.changes(7, 0, Checks.row(MIN), MIN);
        CHECKS.changes(7, 0, Checks.row(MAX, 1, MIN, -1), MAX, MIN, 0, -1);
        CHECKS.changes(7, 0, Checks.row(MIN, -1), MIN, MAX);
        CHECKS.changes(7, 0, Checks.times(64, 1), Checks.upFrom(1, 64));
        CHECKS.changes(7, 0, Checks.times(64, MIN), alternating(MIN, 0));
    }

    /** 64 cells. */
    private static int[] alternating(int even, int odd) {
        int[] cells = new int[64];
        for (int i = 0; i < 64; i++) {
            cells[i] = i % 2 == 0 ? even : odd;
        }
        return cells;
    }

    private static void runningGreatest() {
        CHECKS.changes(8, 0, NONE);
        CHECKS.changes(8, 0, Checks.row(-7), -7);
        CHECKS.changes(8, 0, Checks.row(MIN), MIN);
        CHECKS.changes(8, 0, Checks.row(-7, -9, -3), -7, -7, -3);
        CHECKS.changes(8, 0, Checks.row(MIN, MAX, MIN), MIN, MAX, MAX);
        CHECKS.changes(8, 0, Checks.row(MAX, MIN, 0), MAX, MAX, MAX);
        CHECKS.changes(8, 0, Checks.upFrom(-100, 64), Checks.upFrom(-100, 64));
        CHECKS.changes(8, 0, downFrom(-100, 64), Checks.times(64, -100));
    }

    private static void places() {
        CHECKS.changes(9, 0, NONE);
        CHECKS.changes(9, 0, Checks.row(0));
        CHECKS.changes(9, 0, Checks.row(1), 0);
        CHECKS.changes(9, 0, Checks.row(-1, 0, MIN, MAX, 0, 65536), 0, 2, 3, 5);
        CHECKS.changes(9, 0, Checks.times(64, 0));
        CHECKS.changes(9, 0, Checks.times(64, -1), Checks.upFrom(0, 64));
        CHECKS.changes(9, 0, Checks.upFrom(0, 64), Checks.upFrom(1, 63));
        CHECKS.changes(9, 0, Checks.upFrom(-63, 64), Checks.upFrom(0, 63));
    }

    private static void steps() {
        CHECKS.changes(10, 0, NONE);
        CHECKS.changes(10, 0, Checks.row(0), 0);
        CHECKS.changes(10, 0, Checks.row(0, 0), 0);
        CHECKS.changes(10, 0, Checks.row(0, 1), 0, 1);
        CHECKS.changes(10, 0, Checks.row(7, 7, 0, 7, 7), 7, 0, 7);
        CHECKS.changes(10, 0, Checks.row(MIN, MAX, MAX, MIN), MIN, MAX, MIN);
        CHECKS.changes(10, 0, Checks.times(64, 7), 7);
        CHECKS.changes(10, 0, alternating(7, 0), alternating(7, 0));
        int[] last = Checks.times(64, 7);
        last[63] = 8;
        CHECKS.changes(10, 0, last, 7, 8);
        CHECKS.changes(10, 0, Checks.times(64, 1000), 1000);
    }

    private static void firstDifference() {
        CHECKS.changes(11, 0, NONE);
        for (int first : new int[] {0, 1, -1, 9, MIN, MAX}) {
            CHECKS.changes(11, 0, Checks.row(first), first);
            CHECKS.changes(11, 0, Checks.row(first, first), first, 0);
        }
    }

    private static void laterDifferences() {
        CHECKS.changes(11, 0, Checks.row(5, 7), 5, 2);
        CHECKS.changes(11, 0, Checks.row(5, 7, 4, 4), 5, 2, -3, 0);
        CHECKS.changes(11, 0, Checks.row(0, MIN, MAX, MIN, 0), 0, MIN, -1, 1, MIN);
        CHECKS.changes(11, 0, Checks.upFrom(1, 64), Checks.times(64, 1));
        CHECKS.changes(11, 0, downFrom(-1, 64), Checks.times(64, -1));
    }

    private static void wrongOperation() {
        for (int op : new int[] {-1, -2, 12, 13, 16, 256, 258, MIN, MAX}) {
            for (int k : new int[] {0, 1, -1}) {
                CHECKS.refusesToChange(op, k, Checks.row(1, 0));
                CHECKS.refusesToChange(op, k, NONE);
            }
        }
        for (int op = 0; op <= 11; op++) {
            CHECKS.changes(op, 0, NONE);
        }
    }

    private static void wrongNumber(int op) {
        for (int count = 0; count <= 64; count++) {
            int[] a = Checks.upFrom(1, count);
            for (int k : new int[] {-1, -count - 1, count + 1, count + 2, 65, 256, 65536, MIN, MAX}) {
                CHECKS.refusesToChange(op, k, a);
            }
            CHECKS.changes(op, 0, a, op == 4 ? NONE : a);
            CHECKS.changes(op, count, a, op == 4 ? a : NONE);
        }
        aShortenedVectorCountsItsCellsNow(op);
    }

    private static void aShortenedVectorCountsItsCellsNow(int op) {
        RunVectors x = Checks.with(Checks.row(7, 8, 9));
        x.change(0, 4, 0, 2);
        CHECKS.due("change(1, " + op + ", 0, 3) of a shortened vector", x.change(1, op, 0, 3), -1);
        CHECKS.holds("change(1, " + op + ", 0, 3) of a shortened vector", x, Checks.row(7, 8), NONE, NONE, NONE);
    }

    /** The target's earlier cells are gone, whether it was longer or shorter before. */
    private static void theNumberOfCellsThen() {
        for (int before : new int[] {0, 1, 2, 3, 64}) {
            for (int op = 0; op <= 11; op++) {
                replaces(op, 0, before, NONE, 0);
            }
            for (int op : new int[] {0, 1, 2, 3, 6, 7, 8, 11}) {
                replaces(op, 1, before, Checks.row(1, 1, 0), 3);
                replaces(op, 1, before, Checks.times(64, 1), 64);
            }
            replaces(4, 2, before, Checks.row(1, 1, 0), 2);
            replaces(4, 64, before, Checks.times(64, 1), 64);
            replaces(4, 0, before, Checks.times(64, 1), 0);
            replaces(5, 2, before, Checks.row(1, 1, 0), 1);
            replaces(5, 64, before, Checks.times(64, 1), 0);
            replaces(5, 0, before, Checks.times(64, 1), 64);
            replaces(9, 0, before, Checks.row(1, 1, 0), 2);
            replaces(9, 0, before, Checks.times(64, 1), 64);
            replaces(9, 0, before, Checks.times(64, 0), 0);
            replaces(10, 0, before, Checks.row(1, 1, 0), 2);
            replaces(10, 0, before, Checks.times(64, 1), 1);
            replaces(10, 0, before, alternating(1, 0), 64);
        }
    }

    private static void replaces(int op, int k, int before, int[] a, int want) {
        RunVectors x = Checks.with(a, Checks.times(before, 500));
        String call = "change(1, " + op + ", 0, " + k + ") on a target of " + before;
        CHECKS.due(call, x.change(1, op, 0, k), want);
        CHECKS.due("length behind " + call, x.length(1), want);
        CHECKS.due("old cells behind " + call, x.find(1, 500, 0), -1);
        CHECKS.due("the place at the end behind " + call, x.at(1, want), 0);
    }
}
