/** Promise 2: push. */
public final class PushTest {
    private static final Checks CHECKS = new Checks();

    public static void main(String[] args) {
        putsCellsAtTheEnd();
        everyVectorFillsUp();
        wrongVectorIsRefused();
        wrongCountIsRefused();
        tooManyCellsAreRefused();
        CHECKS.end();
    }

    private static void putsCellsAtTheEnd() {
        RunVectors x = new RunVectors();
        CHECKS.due("push(1, 5, 3)", x.push(1, 5, 3), 3);
        CHECKS.due("push(1, -7, 1)", x.push(1, -7, 1), 4);
        CHECKS.due("push(1, 5, 2)", x.push(1, 5, 2), 6);
        CHECKS.due("push(1, MIN, 1)", x.push(1, Checks.MIN, 1), 7);
        CHECKS.due("push(1, MAX, 1)", x.push(1, Checks.MAX, 1), 8);
        CHECKS.due("push(1, 0, 1)", x.push(1, 0, 1), 9);
        CHECKS.holds("push", x, Checks.row(), Checks.row(5, 5, 5, -7, 5, 5, Checks.MIN, Checks.MAX, 0),
                Checks.row(), Checks.row());
    }

    private static void everyVectorFillsUp() {
        RunVectors x = new RunVectors();
        for (int vector = 0; vector < 4; vector++) {
            CHECKS.due("push of 64", x.push(vector, vector + 1, 64), 64);
        }
        CHECKS.holds("push of 64", x, Checks.times(64, 1), Checks.times(64, 2), Checks.times(64, 3),
                Checks.times(64, 4));
        RunVectors y = new RunVectors();
        CHECKS.due("push(3, 1, 63)", y.push(3, 1, 63), 63);
        CHECKS.due("push(3, 2, 1)", y.push(3, 2, 1), 64);
        CHECKS.due("at(3, 62)", y.at(3, 62), 1);
        CHECKS.due("at(3, 63)", y.at(3, 63), 2);
    }

    private static void wrongVectorIsRefused() {
        for (int vector : Checks.NO_VECTORS) {
            CHECKS.leaves("push(" + vector + ", 1, 1)", -1, x -> x.push(vector, 1, 1),
                    Checks.row(1), Checks.row(2, 3), Checks.row(), Checks.row(4));
        }
    }

    private static void wrongCountIsRefused() {
        for (int count : new int[] {0, -1, 65, 100, Checks.MAX, Checks.MIN}) {
            CHECKS.leaves("push(1, 9, " + count + ")", -1, x -> x.push(1, 9, count),
                    Checks.row(1), Checks.row(2, 3), Checks.row(), Checks.row(4));
            CHECKS.leaves("push(2, 9, " + count + ")", -1, x -> x.push(2, 9, count),
                    Checks.row(1), Checks.row(2, 3), Checks.row(), Checks.row(4));
        }
    }

    private static void tooManyCellsAreRefused() {
        int[] full = Checks.upFrom(10, 64);
        CHECKS.leaves("push(0, 9, 1) on 64 cells", -1, x -> x.push(0, 9, 1), full, Checks.row(1));
        CHECKS.leaves("push(0, 9, 64) on 64 cells", -1, x -> x.push(0, 9, 64), full, Checks.row(1));
        int[] one = Checks.row(3);
        CHECKS.leaves("push(0, 9, 64) on 1 cell", -1, x -> x.push(0, 9, 64), one, Checks.row(1));
        CHECKS.leaves("push(0, 9, 5) on 60 cells", -1, x -> x.push(0, 9, 5), Checks.upFrom(1, 60));
        CHECKS.due("push(0, 9, 4) on 60 cells", Checks.with(Checks.upFrom(1, 60)).push(0, 9, 4), 64);
    }
}
