/** Promise 4: change. */
public final class ChangeTest {
    private static final Checks CHECKS = new Checks();
    private static final int MIN = Checks.MIN;
    private static final int MAX = Checks.MAX;
    private static final int[] NONE = {};
    private static final int[] NUMBERS = {0, 1, -1, 3, 64, 65, MAX, MIN};

    public static void main(String[] args) {
        plusAndTimes();
        reverse();
        sort();
        firstCells();
        allButTheFirst();
        turn();
        runningSums();
        runningGreatest();
        places();
        steps();
        differences();
        emptySource();
        wrongVectorIsRefused();
        wrongOperationIsRefused();
        CHECKS.end();
    }

    /** An operation that does not name k makes the same of any k. */
    private static void makesForAnyNumber(int op, int[] a, int... want) {
        for (int k : NUMBERS) {
            CHECKS.changes(op, k, a, want);
        }
    }

    private static void plusAndTimes() {
        int[] a = {3, -4, 0, MAX, MIN};
        CHECKS.changes(0, 0, a, a);
        CHECKS.changes(0, 2, a, 5, -2, 2, MIN + 1, MIN + 2);
        CHECKS.changes(0, -1, a, 2, -5, -1, MAX - 1, MAX);
        CHECKS.changes(0, MIN, a, MIN + 3, MAX - 3, MIN, -1, 0);
        CHECKS.changes(0, 1, Checks.upFrom(0, 64), Checks.upFrom(1, 64));
        CHECKS.changes(1, 0, a, 0, 0, 0, 0, 0);
        CHECKS.changes(1, 1, a, a);
        CHECKS.changes(1, -1, a, -3, 4, 0, -MAX, MIN);
        CHECKS.changes(1, 2, a, 6, -8, 0, -2, 0);
        CHECKS.changes(1, MAX, a, MAX - 2, 4, 0, 1, MIN);
        CHECKS.changes(1, 5, Checks.times(64, 3), Checks.times(64, 15));
    }

    private static void reverse() {
        makesForAnyNumber(2, Checks.row(1, 2, 3, 3), 3, 3, 2, 1);
        makesForAnyNumber(2, Checks.row(1, 2, 3), 3, 2, 1);
        makesForAnyNumber(2, Checks.row(6), 6);
        int[] down = new int[64];
        for (int i = 0; i < 64; i++) {
            down[i] = 63 - i;
        }
        CHECKS.changes(2, 0, Checks.upFrom(0, 64), down);
    }

    private static void sort() {
        makesForAnyNumber(3, Checks.row(3, -1, 2, 3, MAX, 0, MIN, -1), MIN, -1, -1, 0, 2, 3, 3, MAX);
        makesForAnyNumber(3, Checks.row(4), 4);
        CHECKS.changes(3, 0, Checks.row(5, 4, 3, 2, 1), 1, 2, 3, 4, 5);
        CHECKS.changes(3, 0, Checks.row(1, 2, 3), 1, 2, 3);
        CHECKS.changes(3, 0, Checks.row(MAX, MIN), MIN, MAX);
        CHECKS.changes(3, 0, Checks.row(7, 7, 7), 7, 7, 7);
        int[] mixed = new int[64];
        for (int i = 0; i < 64; i++) {
            mixed[i] = i * 37 % 64;
        }
        CHECKS.changes(3, 0, mixed, Checks.upFrom(0, 64));
    }

    private static void firstCells() {
        int[] a = {5, 6, 7};
        CHECKS.changes(4, 0, a);
        CHECKS.changes(4, 1, a, 5);
        CHECKS.changes(4, 2, a, 5, 6);
        CHECKS.changes(4, 3, a, 5, 6, 7);
        CHECKS.changes(4, 64, Checks.upFrom(1, 64), Checks.upFrom(1, 64));
        CHECKS.changes(4, 63, Checks.upFrom(1, 64), Checks.upFrom(1, 63));
        wrongNumberIsRefused(4);
    }

    private static void allButTheFirst() {
        int[] a = {5, 6, 7};
        CHECKS.changes(5, 0, a, 5, 6, 7);
        CHECKS.changes(5, 1, a, 6, 7);
        CHECKS.changes(5, 2, a, 7);
        CHECKS.changes(5, 3, a);
        CHECKS.changes(5, 64, Checks.upFrom(1, 64));
        CHECKS.changes(5, 0, Checks.upFrom(1, 64), Checks.upFrom(1, 64));
        CHECKS.changes(5, 1, Checks.upFrom(1, 64), Checks.upFrom(2, 63));
        wrongNumberIsRefused(5);
    }

    private static void wrongNumberIsRefused(int op) {
        for (int k : new int[] {-1, 4, 64, 65, MAX, MIN}) {
            CHECKS.refusesToChange(op, k, Checks.row(5, 6, 7));
        }
        CHECKS.refusesToChange(op, 65, Checks.upFrom(1, 64));
        CHECKS.refusesToChange(op, 1, NONE);
        CHECKS.refusesToChange(op, -1, NONE);
    }

    private static void turn() {
        int[] a = {5, 6, 7};
        CHECKS.changes(6, 0, a, 5, 6, 7);
        CHECKS.changes(6, 1, a, 6, 7, 5);
        CHECKS.changes(6, 2, a, 7, 5, 6);
        CHECKS.changes(6, 3, a, 5, 6, 7);
        CHECKS.changes(6, 301, a, 6, 7, 5);
        CHECKS.changes(6, -1, a, 7, 5, 6);
        CHECKS.changes(6, -2, a, 6, 7, 5);
        CHECKS.changes(6, -3, a, 5, 6, 7);
        CHECKS.changes(6, -301, a, 7, 5, 6);
        // 2147483647 = 3 * 715827882 + 1 and -2147483648 = 3 * -715827883 + 1
        CHECKS.changes(6, MAX, a, 6, 7, 5);
        CHECKS.changes(6, MIN, a, 6, 7, 5);
        CHECKS.changes(6, MAX, Checks.row(4), 4);
        CHECKS.changes(6, MIN, Checks.row(4), 4);
        // 2147483647 = 5 * 429496729 + 2 and -2147483648 = 5 * -429496730 + 2
        CHECKS.changes(6, MAX, Checks.row(0, 1, 2, 3, 4), 2, 3, 4, 0, 1);
        CHECKS.changes(6, MIN, Checks.row(0, 1, 2, 3, 4), 2, 3, 4, 0, 1);
        CHECKS.changes(6, MIN, Checks.upFrom(3, 64), Checks.upFrom(3, 64));
        int[] last = Checks.upFrom(2, 64);
        last[0] = 66;
        CHECKS.changes(6, MAX, Checks.upFrom(3, 64), last);
    }

    private static void runningSums() {
        makesForAnyNumber(7, Checks.row(1, 2, -5, 0, 10), 1, 3, -2, -2, 8);
        makesForAnyNumber(7, Checks.row(-3), -3);
        CHECKS.changes(7, 0, Checks.row(MAX, 1, MIN, -1), MAX, MIN, 0, -1);
        CHECKS.changes(7, 0, Checks.times(64, 1), Checks.upFrom(1, 64));
    }

    private static void runningGreatest() {
        makesForAnyNumber(8, Checks.row(-7, -9, -3, 4, 4, 0, 5), -7, -7, -3, 4, 4, 4, 5);
        makesForAnyNumber(8, Checks.row(MIN), MIN);
        CHECKS.changes(8, 0, Checks.row(MIN, MIN, MAX, MIN), MIN, MIN, MAX, MAX);
        CHECKS.changes(8, 0, Checks.upFrom(-70, 64), Checks.upFrom(-70, 64));
    }

    private static void places() {
        makesForAnyNumber(9, Checks.row(4, 0, -1, 0, 0, MIN), 0, 2, 5);
        makesForAnyNumber(9, Checks.row(0));
        makesForAnyNumber(9, Checks.row(1), 0);
        CHECKS.changes(9, 0, Checks.times(64, 5), Checks.upFrom(0, 64));
        CHECKS.changes(9, 0, Checks.upFrom(-63, 64), Checks.upFrom(0, 63));
    }

    private static void steps() {
        makesForAnyNumber(10, Checks.row(4, 4, 0, 0, 0, 4, 5, 5), 4, 0, 4, 5);
        makesForAnyNumber(10, Checks.row(0, 0, 1), 0, 1);
        makesForAnyNumber(10, Checks.row(6), 6);
        CHECKS.changes(10, 0, Checks.row(MIN, MAX, MIN), MIN, MAX, MIN);
        CHECKS.changes(10, 0, Checks.times(64, 2), 2);
        CHECKS.changes(10, 0, Checks.upFrom(0, 64), Checks.upFrom(0, 64));
    }

    private static void differences() {
        makesForAnyNumber(11, Checks.row(5, 7, 7, 1, -4), 5, 2, 0, -6, -5);
        makesForAnyNumber(11, Checks.row(-8), -8);
        CHECKS.changes(11, 0, Checks.row(MAX, MIN, MAX, 0, MIN), MAX, 1, -1, -MAX, MIN);
        CHECKS.changes(11, 0, Checks.upFrom(1, 64), Checks.times(64, 1));
    }

    private static void emptySource() {
        for (int op = 0; op <= 11; op++) {
            CHECKS.changes(op, 0, NONE);
            if (op != 4 && op != 5) {
                makesForAnyNumber(op, NONE);
            }
        }
    }

    private static void wrongVectorIsRefused() {
        int[][] start = {Checks.row(1, 0), Checks.row(0, 1, 1), Checks.row(5), NONE};
        for (int wrong : Checks.NO_VECTORS) {
            for (int op = 0; op <= 11; op++) {
                int which = op;
                CHECKS.leaves("change(" + wrong + ", " + op + ", 0, 0)", -1, x -> x.change(wrong, which, 0, 0), start);
                CHECKS.leaves("change(1, " + op + ", " + wrong + ", 0)", -1, x -> x.change(1, which, wrong, 0), start);
            }
        }
    }

    private static void wrongOperationIsRefused() {
        for (int op : new int[] {-1, 12, 13, 100, MAX, MIN}) {
            CHECKS.refusesToChange(op, 0, Checks.row(1, 0));
            CHECKS.refusesToChange(op, 1, NONE);
        }
    }
}
