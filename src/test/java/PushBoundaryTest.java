/** The boundary cases that promise 2 names, sentence by sentence. */
public final class PushBoundaryTest {
    private static final Checks CHECKS = new Checks();
    private static final int MIN = Checks.MIN;
    private static final int MAX = Checks.MAX;

    public static void main(String[] args) {
        CHECKS.sentence("Promise 2", "Puts count cells with the value at the end of the vector.",
                PushBoundaryTest::cellsAtTheEnd);
        CHECKS.sentence("Promise 2", "Refused too if count is not from 1 to 64", PushBoundaryTest::countFrom1To64);
        CHECKS.sentence("Promise 2", "or the vector would have more than 64 cells",
                PushBoundaryTest::noMoreThan64Cells);
        CHECKS.sentence("Promise 2", "Otherwise answers the number of its cells then.",
                PushBoundaryTest::theNumberOfCellsThen);
        CHECKS.end();
    }

    private static void cellsAtTheEnd() {
        for (int value : new int[] {0, 1, -1, MIN, MAX}) {
            for (int vector = 0; vector < 4; vector++) {
                int[][] vectors = {{}, {}, {}, {}};
                RunVectors x = Checks.with(vectors);
                vectors[vector] = Checks.times(64, value);
                x.push(vector, value, 64);
                CHECKS.holds("push(" + vector + ", " + value + ", 64)", x, vectors);
            }
        }
        int[] want = Checks.upFrom(1, 64);
        want[63] = -9;
        RunVectors x = Checks.with(Checks.row(4), Checks.upFrom(1, 63), Checks.row(5), Checks.row(6));
        x.push(1, -9, 1);
        CHECKS.holds("push of the 64th cell", x, Checks.row(4), want, Checks.row(5), Checks.row(6));
    }

    private static void countFrom1To64() {
        int[][] start = {Checks.row(1), Checks.row(2, 3), Checks.row(), Checks.upFrom(1, 64)};
        for (int vector = 0; vector < 4; vector++) {
            int into = vector;
            for (int count : new int[] {0, -1, -64, MIN, 65, 66, 128, 257, 65537, MAX}) {
                CHECKS.leaves("push(" + vector + ", 9, " + count + ")", -1, x -> x.push(into, 9, count), start);
            }
            CHECKS.due("push of 1", new RunVectors().push(vector, 9, 1), 1);
            CHECKS.due("push of 64", new RunVectors().push(vector, 9, 64), 64);
        }
    }

    private static void noMoreThan64Cells() {
        for (int cells = 1; cells <= 64; cells++) {
            for (int count = 65 - cells; count <= 64; count++) {
                RunVectors x = new RunVectors();
                x.push(2, 7, cells);
                CHECKS.due("push of " + count + " on " + cells, x.push(2, 9, count), -1);
                CHECKS.due("length behind it", x.length(2), cells);
                CHECKS.due("the new cells behind it", x.between(2, 9, 9), 0);
                CHECKS.due("the old cells behind it", x.between(2, 7, 7), cells);
            }
        }
    }

    private static void theNumberOfCellsThen() {
        for (int cells = 1; cells <= 63; cells++) {
            for (int count = 1; count <= 64 - cells; count++) {
                RunVectors x = new RunVectors();
                CHECKS.due("push of " + cells, x.push(1, 7, cells), cells);
                CHECKS.due("push of " + count + " on " + cells, x.push(1, 9, count), cells + count);
                CHECKS.due("length behind it", x.length(1), cells + count);
                CHECKS.due("the new cells behind it", x.between(1, 9, 9), count);
            }
        }
    }
}
