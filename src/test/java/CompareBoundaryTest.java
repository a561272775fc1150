/** The boundary cases that promise 11 names, sentence by sentence. */
public final class CompareBoundaryTest {
    private static final Checks CHECKS = new Checks();
    private static final int MIN = Checks.MIN;
    private static final int MAX = Checks.MAX;
    private static final int[] NONE = {};

    public static void main(String[] args) {
        CHECKS.sentence("Promise 11", "0 if the vectors a and b hold the same cells", CompareBoundaryTest::sameCells);
        CHECKS.sentence("Promise 11", "-2 if a comes before b, 2 if a comes behind b, as rows of cells are ordered by"
                + " their first difference", CompareBoundaryTest::firstDifference);
        CHECKS.sentence("Promise 11", "(a vector that is the beginning of a longer one comes before it)",
                CompareBoundaryTest::beginning);
        CHECKS.sentence("Promise 11", "-1 if refused", CompareBoundaryTest::noVector);
        CHECKS.end();
    }

    /** At every pair of vector numbers. */
    private static void compares(int want, int[] first, int[] second) {
        for (int a = 0; a < 4; a++) {
            for (int b = 0; b < 4; b++) {
                if (a != b) {
                    int[][] vectors = {{1}, {2}, {3}, {4}};
                    vectors[a] = first;
                    vectors[b] = second;
                    int left = a;
                    int right = b;
                    CHECKS.leaves("compare(" + a + ", " + b + ")", want, x -> x.compare(left, right), vectors);
                }
            }
        }
    }

    private static void ordered(int[] before, int[] behind) {
        compares(-2, before, behind);
        compares(2, behind, before);
    }

    private static void sameCells() {
        for (int[] cells : new int[][] {NONE, {0}, {MIN}, {MAX}, {1000, -1000}, Checks.upFrom(0, 64),
                Checks.times(64, 0)}) {
            compares(0, cells, cells);
            for (int vector = 0; vector < 4; vector++) {
                int itself = vector;
                int[][] vectors = {{1}, {2}, {3}, {4}};
                vectors[vector] = cells;
                CHECKS.leaves("compare(" + itself + ", " + itself + ")", 0, x -> x.compare(itself, itself), vectors);
            }
        }
        cellsBehindTheEndDoNotCount();
    }

    private static void cellsBehindTheEndDoNotCount() {
        RunVectors x = Checks.with(Checks.row(7, 8, 9), Checks.row(7, 8, 5), Checks.row(7, 8));
        x.change(0, 4, 0, 2);
        x.change(1, 4, 1, 2);
        CHECKS.due("compare(0, 1) when both are shortened", x.compare(0, 1), 0);
        CHECKS.due("compare(0, 2) when one is shortened", x.compare(0, 2), 0);
        CHECKS.due("compare(2, 1) when one is shortened", x.compare(2, 1), 0);
    }

    private static void firstDifference() {
        ordered(Checks.row(1), Checks.row(2));
        ordered(Checks.row(-1), Checks.row(0));
        // These differences wrap.
        ordered(Checks.row(MIN), Checks.row(MAX));
        ordered(Checks.row(MIN), Checks.row(1));
        ordered(Checks.row(-2), Checks.row(MAX));
        ordered(Checks.row(1, 9), Checks.row(2, 0));
        ordered(Checks.row(5, 1, 9), Checks.row(5, 2, 0));
        ordered(Checks.row(1, 9, 9, 9), Checks.row(2));
        ordered(Checks.row(1), Checks.row(2, 0, 0));
        ordered(Checks.times(64, 0), Checks.row(1));
        ordered(Checks.row(-1), Checks.times(64, 0));
        for (int place : new int[] {0, 1, 31, 62, 63}) {
            int[] greater = Checks.times(64, 3);
            greater[place] = 4;
            ordered(Checks.times(64, 3), greater);
        }
    }

    private static void beginning() {
        ordered(NONE, Checks.row(0));
        ordered(NONE, Checks.row(MIN));
        ordered(NONE, Checks.row(MAX));
        ordered(NONE, Checks.times(64, -1));
        ordered(Checks.row(5), Checks.row(5, MIN));
        ordered(Checks.row(5), Checks.row(5, 0));
        ordered(Checks.row(5), Checks.row(5, MAX));
        ordered(Checks.upFrom(0, 63), Checks.upFrom(0, 64));
        ordered(Checks.times(63, 0), Checks.times(64, 0));
        ordered(Checks.times(63, MIN), Checks.times(64, MIN));
    }

    private static void noVector() {
        int[][] vectors = {{1}, {2, 3}, {}, {1}};
        for (int wrong : Checks.NO_VECTORS) {
            for (int right = 0; right < 4; right++) {
                int vector = right;
                CHECKS.leaves("compare(" + wrong + ", " + right + ")", -1, x -> x.compare(wrong, vector), vectors);
                CHECKS.leaves("compare(" + right + ", " + wrong + ")", -1, x -> x.compare(vector, wrong), vectors);
            }
            CHECKS.leaves("compare(" + wrong + ", " + wrong + ")", -1, x -> x.compare(wrong, wrong), vectors);
            CHECKS.leaves("compare(" + wrong + ", -2)", -1, x -> x.compare(wrong, -2), vectors);
        }
    }
}
