/** Promise 11: compare. */
public final class CompareTest {
    private static final Checks CHECKS = new Checks();

    public static void main(String[] args) {
        sameCells();
        firstDifferenceDecides();
        beginningComesBefore();
        shortenedVectors();
        wrongVectorIsRefused();
        CHECKS.end();
    }

    /** In both directions, and at every pair of vector numbers. */
    private static void orders(int[] lesser, int[] greater) {
        for (int a = 0; a < 4; a++) {
            for (int b = 0; b < 4; b++) {
                if (a != b) {
                    int[][] start = {{}, {}, {}, {}};
                    start[a] = lesser;
                    start[b] = greater;
                    RunVectors x = Checks.with(start);
                    CHECKS.due("compare of a lesser " + a + " with " + b, x.compare(a, b), -2);
                    CHECKS.due("compare of a greater " + b + " with " + a, x.compare(b, a), 2);
                    CHECKS.due("compare(" + a + ", " + a + ")", x.compare(a, a), 0);
                    CHECKS.holds("compare", x, start);
                }
            }
        }
    }

    private static void sameCells() {
        int[] full = Checks.upFrom(-9, 64);
        RunVectors x = Checks.with(full, Checks.row(4), full, Checks.row(4));
        CHECKS.due("compare(0, 2)", x.compare(0, 2), 0);
        CHECKS.due("compare(2, 0)", x.compare(2, 0), 0);
        CHECKS.due("compare(1, 3)", x.compare(1, 3), 0);
        RunVectors empty = new RunVectors();
        CHECKS.due("compare(1, 3) of empty vectors", empty.compare(1, 3), 0);
    }

    private static void firstDifferenceDecides() {
        orders(Checks.row(1), Checks.row(2));
        orders(Checks.row(1, 9, 9), Checks.row(2, 0, 0));
        orders(Checks.row(1, 1, 9), Checks.row(1, 2, 0));
        orders(Checks.row(1, 9, 9, 9), Checks.row(2));
        orders(Checks.row(1), Checks.row(2, 0, 0));
        orders(Checks.row(-1), Checks.row(0));
        orders(Checks.row(Checks.MIN), Checks.row(Checks.MAX));
        orders(Checks.row(Checks.MIN), Checks.row(1));
        orders(Checks.row(-2), Checks.row(Checks.MAX));
        int[] last = Checks.times(64, 3);
        last[63] = 4;
        orders(Checks.times(64, 3), last);
    }

    private static void beginningComesBefore() {
        orders(Checks.row(), Checks.row(0));
        orders(Checks.row(), Checks.row(Checks.MIN));
        orders(Checks.row(5, 6), Checks.row(5, 6, -7));
        orders(Checks.row(5, 6), Checks.row(5, 6, 0));
        orders(Checks.upFrom(0, 63), Checks.upFrom(0, 64));
    }

    private static void shortenedVectors() {
        RunVectors x = Checks.with(Checks.row(5, 6, 7), Checks.row(5, 6, 8));
        x.change(0, 4, 0, 2);
        x.change(1, 4, 1, 2);
        CHECKS.due("compare(0, 1) when shortened", x.compare(0, 1), 0);
    }

    private static void wrongVectorIsRefused() {
        int[][] start = {Checks.row(1), Checks.row(2), Checks.row(), Checks.row(1)};
        for (int wrong : Checks.NO_VECTORS) {
            CHECKS.leaves("compare(" + wrong + ", 0)", -1, x -> x.compare(wrong, 0), start);
            CHECKS.leaves("compare(0, " + wrong + ")", -1, x -> x.compare(0, wrong), start);
            CHECKS.leaves("compare(" + wrong + ", " + wrong + ")", -1, x -> x.compare(wrong, wrong), start);
        }
    }
}
