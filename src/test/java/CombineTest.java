/** Promise 3: combine. */
public final class CombineTest {
    private static final Checks CHECKS = new Checks();
    private static final int MIN = Checks.MIN;
    private static final int MAX = Checks.MAX;
    private static final int[] NONE = {};

    public static void main(String[] args) {
        pairs();
        keep();
        repeat();
        join();
        fetch();
        oneVectorAsBothSources();
        emptySources();
        wrongVectorIsRefused();
        wrongOperationIsRefused();
        differentLengthsAreRefused();
        CHECKS.end();
    }

    private static void pairs() {
        int[] a = {3, -4, 5, 0, MAX, MIN, MIN, 65536};
        int[] b = {7, -9, 5, -1, 1, 1, MAX, 65537};
        CHECKS.combines(0, a, b, 10, -13, 10, -1, MIN, MIN + 1, -1, 131073);
        CHECKS.combines(1, a, b, -4, 5, 0, 1, MAX - 1, MAX, 1, -1);
        CHECKS.combines(2, a, b, 21, 36, 25, 0, MAX, MIN, MIN, 65536);
        CHECKS.combines(3, a, b, 3, -9, 5, -1, 1, MIN, MIN, 65536);
        CHECKS.combines(4, a, b, 7, -4, 5, 0, MAX, 1, MAX, 65537);
        CHECKS.combines(5, a, b, 1, 0, 0, 0, 0, 1, 1, 1);
        CHECKS.combines(6, a, b, 0, 0, 1, 0, 0, 0, 0, 0);
        CHECKS.combines(6, Checks.upFrom(0, 64), Checks.times(64, 0), first(1, 64));
        CHECKS.combines(0, Checks.upFrom(0, 64), Checks.times(64, 2), Checks.upFrom(2, 64));
    }

    /** The value, followed by zeros. */
    private static int[] first(int value, int count) {
        int[] cells = new int[count];
        cells[0] = value;
        return cells;
    }

    private static void keep() {
        CHECKS.combines(7, Checks.row(9, 8, 7, 0, 5), Checks.row(1, 0, -1, MIN, 0), 9, 7, 0);
        CHECKS.combines(7, Checks.row(9, 8), Checks.row(0, 0));
        CHECKS.combines(7, Checks.row(9, 8), Checks.row(2, 2), 9, 8);
        CHECKS.combines(7, Checks.upFrom(5, 64), Checks.times(64, 3), Checks.upFrom(5, 64));
    }

    private static void repeat() {
        CHECKS.combines(8, Checks.row(9, 8, 7, 6, 5), Checks.row(2, 0, -3, 1, MIN), 9, 9, 6);
        CHECKS.combines(8, Checks.row(9, 8), Checks.row(0, -1));
        CHECKS.combines(8, Checks.row(9), Checks.row(64), Checks.times(64, 9));
        CHECKS.combines(8, Checks.row(3, 9, 4), Checks.row(-50, 64, 0), Checks.times(64, 9));
        CHECKS.combines(8, Checks.upFrom(5, 64), Checks.times(64, 1), Checks.upFrom(5, 64));
        CHECKS.refusesToCombine(8, Checks.row(9), Checks.row(65));
        CHECKS.refusesToCombine(8, Checks.row(9), Checks.row(MAX));
        CHECKS.refusesToCombine(8, Checks.row(1, 2), Checks.row(1, 64));
        CHECKS.refusesToCombine(8, Checks.row(1, 2), Checks.row(64, 1));
        CHECKS.refusesToCombine(8, Checks.row(1, 2, 3), Checks.row(-5, 65, -5));
        CHECKS.refusesToCombine(8, Checks.row(1, 2), Checks.row(65, -1));
        CHECKS.refusesToCombine(8, Checks.row(1, 2), Checks.row(MAX, MIN));
        CHECKS.refusesToCombine(8, Checks.row(1, 2, 3), Checks.row(MAX, MAX, 3));
        CHECKS.refusesToCombine(8, Checks.row(1, 2, 3, 4), Checks.times(4, 1 << 30));
        CHECKS.refusesToCombine(8, Checks.upFrom(1, 64), Checks.upFrom(0, 64));
    }

    private static void join() {
        CHECKS.combines(9, Checks.row(1, 2), Checks.row(3, 4, 5), 1, 2, 3, 4, 5);
        CHECKS.combines(9, Checks.row(1, 2), NONE, 1, 2);
        CHECKS.combines(9, NONE, Checks.row(3), 3);
        CHECKS.combines(9, Checks.upFrom(0, 40), Checks.upFrom(40, 24), Checks.upFrom(0, 64));
        CHECKS.combines(9, Checks.upFrom(0, 64), NONE, Checks.upFrom(0, 64));
        CHECKS.refusesToCombine(9, Checks.upFrom(0, 40), Checks.upFrom(40, 25));
        CHECKS.refusesToCombine(9, Checks.upFrom(0, 64), Checks.row(1));
        CHECKS.refusesToCombine(9, Checks.row(1), Checks.upFrom(0, 64));
        CHECKS.refusesToCombine(9, Checks.upFrom(0, 64), Checks.upFrom(0, 64));
    }

    private static void fetch() {
        CHECKS.combines(10, Checks.row(7, 8, 9), Checks.row(2, 0, 0, 1, 2), 9, 7, 7, 8, 9);
        CHECKS.combines(10, Checks.row(7, 8, 9), Checks.row(1), 8);
        CHECKS.combines(10, Checks.row(7, 8, 9), NONE);
        CHECKS.combines(10, Checks.row(7), Checks.times(64, 0), Checks.times(64, 7));
        CHECKS.combines(10, Checks.upFrom(5, 64), Checks.row(63, 0), 68, 5);
        CHECKS.refusesToCombine(10, Checks.row(7, 8, 9), Checks.row(0, 3));
        CHECKS.refusesToCombine(10, Checks.row(7, 8, 9), Checks.row(-1, 0));
        CHECKS.refusesToCombine(10, Checks.row(7, 8, 9), Checks.row(0, 1, MAX));
        CHECKS.refusesToCombine(10, Checks.row(7, 8, 9), Checks.row(MIN));
        CHECKS.refusesToCombine(10, Checks.upFrom(5, 64), Checks.row(64));
        CHECKS.refusesToCombine(10, NONE, Checks.row(0));
    }

    private static void oneVectorAsBothSources() {
        RunVectors x = Checks.with(NONE, NONE, NONE, Checks.row(2, 0, 1));
        CHECKS.due("combine(3, 10, 3, 3)", x.combine(3, 10, 3, 3), 3);
        CHECKS.holds("combine(3, 10, 3, 3)", x, NONE, NONE, NONE, Checks.row(1, 2, 0));
        CHECKS.due("combine(3, 8, 3, 3)", x.combine(3, 8, 3, 3), 3);
        CHECKS.holds("combine(3, 8, 3, 3)", x, NONE, NONE, NONE, Checks.row(1, 2, 2));
        CHECKS.due("combine(3, 9, 3, 3)", x.combine(3, 9, 3, 3), 6);
        CHECKS.holds("combine(3, 9, 3, 3)", x, NONE, NONE, NONE, Checks.row(1, 2, 2, 1, 2, 2));
        CHECKS.due("combine(3, 2, 3, 3)", x.combine(3, 2, 3, 3), 6);
        CHECKS.holds("combine(3, 2, 3, 3)", x, NONE, NONE, NONE, Checks.row(1, 4, 4, 1, 4, 4));
    }

    private static void emptySources() {
        for (int op = 0; op <= 10; op++) {
            CHECKS.combines(op, NONE, NONE);
        }
    }

    private static void wrongVectorIsRefused() {
        int[][] start = {Checks.row(1, 0), Checks.row(0, 1), Checks.row(5), NONE};
        for (int wrong : Checks.NO_VECTORS) {
            for (int op = 0; op <= 10; op++) {
                int which = op;
                String of = " with op " + op + " and vector " + wrong;
                CHECKS.leaves("combine into no vector" + of, -1, x -> x.combine(wrong, which, 0, 1), start);
                CHECKS.leaves("combine with no vector a" + of, -1, x -> x.combine(2, which, wrong, 1), start);
                CHECKS.leaves("combine with no vector b" + of, -1, x -> x.combine(2, which, 0, wrong), start);
            }
        }
    }

    private static void wrongOperationIsRefused() {
        for (int op : new int[] {-1, 11, 12, 100, MAX, MIN}) {
            CHECKS.refusesToCombine(op, Checks.row(1, 0), Checks.row(0, 1));
            CHECKS.refusesToCombine(op, NONE, NONE);
        }
    }

    private static void differentLengthsAreRefused() {
        for (int op = 0; op <= 8; op++) {
            CHECKS.refusesToCombine(op, Checks.row(1, 0), Checks.row(0));
            CHECKS.refusesToCombine(op, Checks.row(1), Checks.row(0, 1));
            CHECKS.refusesToCombine(op, NONE, Checks.row(0));
            CHECKS.refusesToCombine(op, Checks.row(0), NONE);
        }
    }
}
