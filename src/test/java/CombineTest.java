/** Promise 3: combine. */
public final class CombineTest {
    private static final Checks CHECKS = new Checks();
    private static final int MIN = Checks.MIN;
    private static final int MAX = Checks.MAX;
    private static final int[] NONE = {};
    private static final int[] OTHER = {77, 78, 79, 80, 81};
    private static final int[] STANDING = {-5, 0};

    public static void main(String[] args) {
        pairs();
        keep();
        repeat();
        join();
        fetch();
        oneVectorAsBothSources();
        emptySources();
        wrongVectorIsRefused();
        wrongOperationIsRefused();
        differentLengthsAreRefused();
        CHECKS.end();
    }

    /** The operation on vectors 0 and 1, once into a third vector and once into each source. */
    private static void makes(int op, int[] a, int[] b, int... want) {
        for (int target = 0; target < 3; target++) {
            RunVectors x = Checks.with(a, b, OTHER, STANDING);
            String call = "combine(" + target + ", " + op + ", 0, 1)";
            CHECKS.due(call, x.combine(target, op, 0, 1), want.length);
            CHECKS.holds(call, x, target == 0 ? want : a, target == 1 ? want : b, target == 2 ? want : OTHER,
                    STANDING);
        }
    }

    private static void refuses(int op, int[] a, int[] b) {
        for (int target = 0; target < 3; target++) {
            int into = target;
            CHECKS.leaves("combine(" + into + ", " + op + ", 0, 1)", -1, x -> x.combine(into, op, 0, 1),
                    a, b, OTHER, STANDING);
        }
    }

    private static void pairs() {
        int[] a = {3, -4, 5, 0, MAX, MIN, MIN, 65536};
        int[] b = {7, -9, 5, -1, 1, 1, MAX, 65537};
        makes(0, a, b, 10, -13, 10, -1, MIN, MIN + 1, -1, 131073);
        makes(1, a, b, -4, 5, 0, 1, MAX - 1, MAX, 1, -1);
        makes(2, a, b, 21, 36, 25, 0, MAX, MIN, MIN, 65536);
        makes(3, a, b, 3, -9, 5, -1, 1, MIN, MIN, 65536);
        makes(4, a, b, 7, -4, 5, 0, MAX, 1, MAX, 65537);
        makes(5, a, b, 1, 0, 0, 0, 0, 1, 1, 1);
        makes(6, a, b, 0, 0, 1, 0, 0, 0, 0, 0);
        makes(6, Checks.upFrom(0, 64), Checks.times(64, 0), first(1, 64));
        makes(0, Checks.upFrom(0, 64), Checks.times(64, 2), Checks.upFrom(2, 64));
    }

    /** The value, followed by zeros. */
    private static int[] first(int value, int count) {
        int[] cells = new int[count];
        cells[0] = value;
        return cells;
    }

    private static void keep() {
        makes(7, Checks.row(9, 8, 7, 0, 5), Checks.row(1, 0, -1, MIN, 0), 9, 7, 0);
        makes(7, Checks.row(9, 8), Checks.row(0, 0));
        makes(7, Checks.row(9, 8), Checks.row(2, 2), 9, 8);
        makes(7, Checks.upFrom(5, 64), Checks.times(64, 3), Checks.upFrom(5, 64));
    }

    private static void repeat() {
        makes(8, Checks.row(9, 8, 7, 6, 5), Checks.row(2, 0, -3, 1, MIN), 9, 9, 6);
        makes(8, Checks.row(9, 8), Checks.row(0, -1));
        makes(8, Checks.row(9), Checks.row(64), Checks.times(64, 9));
        makes(8, Checks.row(3, 9, 4), Checks.row(-50, 64, 0), Checks.times(64, 9));
        makes(8, Checks.upFrom(5, 64), Checks.times(64, 1), Checks.upFrom(5, 64));
        refuses(8, Checks.row(9), Checks.row(65));
        refuses(8, Checks.row(9), Checks.row(MAX));
        refuses(8, Checks.row(1, 2), Checks.row(1, 64));
        refuses(8, Checks.row(1, 2), Checks.row(64, 1));
        refuses(8, Checks.row(1, 2, 3), Checks.row(-5, 65, -5));
        refuses(8, Checks.row(1, 2), Checks.row(65, -1));
        refuses(8, Checks.row(1, 2), Checks.row(MAX, MIN));
        refuses(8, Checks.row(1, 2, 3), Checks.row(MAX, MAX, 3));
        refuses(8, Checks.row(1, 2, 3, 4), Checks.times(4, 1 << 30));
        refuses(8, Checks.upFrom(1, 64), Checks.upFrom(0, 64));
    }

    private static void join() {
        makes(9, Checks.row(1, 2), Checks.row(3, 4, 5), 1, 2, 3, 4, 5);
        makes(9, Checks.row(1, 2), NONE, 1, 2);
        makes(9, NONE, Checks.row(3), 3);
        makes(9, Checks.upFrom(0, 40), Checks.upFrom(40, 24), Checks.upFrom(0, 64));
        makes(9, Checks.upFrom(0, 64), NONE, Checks.upFrom(0, 64));
        refuses(9, Checks.upFrom(0, 40), Checks.upFrom(40, 25));
        refuses(9, Checks.upFrom(0, 64), Checks.row(1));
        refuses(9, Checks.row(1), Checks.upFrom(0, 64));
        refuses(9, Checks.upFrom(0, 64), Checks.upFrom(0, 64));
    }

    private static void fetch() {
        makes(10, Checks.row(7, 8, 9), Checks.row(2, 0, 0, 1, 2), 9, 7, 7, 8, 9);
        makes(10, Checks.row(7, 8, 9), Checks.row(1), 8);
        makes(10, Checks.row(7, 8, 9), NONE);
        makes(10, Checks.row(7), Checks.times(64, 0), Checks.times(64, 7));
        makes(10, Checks.upFrom(5, 64), Checks.row(63, 0), 68, 5);
        refuses(10, Checks.row(7, 8, 9), Checks.row(0, 3));
        refuses(10, Checks.row(7, 8, 9), Checks.row(-1, 0));
        refuses(10, Checks.row(7, 8, 9), Checks.row(0, 1, MAX));
        refuses(10, Checks.row(7, 8, 9), Checks.row(MIN));
        refuses(10, Checks.upFrom(5, 64), Checks.row(64));
        refuses(10, NONE, Checks.row(0));
    }

    private static void oneVectorAsBothSources() {
        RunVectors x = Checks.with(NONE, NONE, NONE, Checks.row(2, 0, 1));
        CHECKS.due("combine(3, 10, 3, 3)", x.combine(3, 10, 3, 3), 3);
        CHECKS.holds("combine(3, 10, 3, 3)", x, NONE, NONE, NONE, Checks.row(1, 2, 0));
        CHECKS.due("combine(3, 8, 3, 3)", x.combine(3, 8, 3, 3), 3);
        CHECKS.holds("combine(3, 8, 3, 3)", x, NONE, NONE, NONE, Checks.row(1, 2, 2));
        CHECKS.due("combine(3, 9, 3, 3)", x.combine(3, 9, 3, 3), 6);
        CHECKS.holds("combine(3, 9, 3, 3)", x, NONE, NONE, NONE, Checks.row(1, 2, 2, 1, 2, 2));
        CHECKS.due("combine(3, 2, 3, 3)", x.combine(3, 2, 3, 3), 6);
        CHECKS.holds("combine(3, 2, 3, 3)", x, NONE, NONE, NONE, Checks.row(1, 4, 4, 1, 4, 4));
    }

    private static void emptySources() {
        for (int op = 0; op <= 10; op++) {
            makes(op, NONE, NONE);
        }
    }

    private static void wrongVectorIsRefused() {
        int[][] start = {Checks.row(1, 0), Checks.row(0, 1), Checks.row(5), NONE};
        for (int wrong : Checks.NO_VECTORS) {
            for (int op = 0; op <= 10; op++) {
                int which = op;
                CHECKS.leaves("combine(" + wrong + ", " + op + ", 0, 1)", -1, x -> x.combine(wrong, which, 0, 1), start);
                CHECKS.leaves("combine(2, " + op + ", " + wrong + ", 1)", -1, x -> x.combine(2, which, wrong, 1), start);
                CHECKS.leaves("combine(2, " + op + ", 0, " + wrong + ")", -1, x -> x.combine(2, which, 0, wrong), start);
            }
        }
    }

    private static void wrongOperationIsRefused() {
        for (int op : new int[] {-1, 11, 12, 100, MAX, MIN}) {
            refuses(op, Checks.row(1, 0), Checks.row(0, 1));
            refuses(op, NONE, NONE);
        }
    }

    private static void differentLengthsAreRefused() {
        for (int op = 0; op <= 8; op++) {
            refuses(op, Checks.row(1, 0), Checks.row(0));
            refuses(op, Checks.row(1), Checks.row(0, 1));
            refuses(op, NONE, Checks.row(0));
            refuses(op, Checks.row(0), NONE);
        }
    }
}
