import java.util.function.IntToLongFunction;

/** Promises 5 to 10: length, at, stretches, sum, find and between. */
public final class QuestionsTest {
    private static final Checks CHECKS = new Checks();
    private static final int MIN = Checks.MIN;
    private static final int MAX = Checks.MAX;
    private static final int[] NONE = {};

    public static void main(String[] args) {
        length();
        at();
        stretches();
        sum();
        find();
        between();
        wrongVectors();
        questionsChangeNothing();
        CHECKS.end();
    }

    private static void length() {
        RunVectors x = Checks.with(Checks.row(1, 1), NONE, Checks.upFrom(0, 64), Checks.row(9));
        CHECKS.due("length(0)", x.length(0), 2);
        CHECKS.due("length(1)", x.length(1), 0);
        CHECKS.due("length(2)", x.length(2), 64);
        CHECKS.due("length(3)", x.length(3), 1);
        x.change(2, 4, 2, 3);
        CHECKS.due("length(2) when shortened", x.length(2), 3);
    }

    private static void at() {
        RunVectors x = Checks.with(Checks.row(4, MIN), Checks.row(6, 7, 8), Checks.upFrom(100, 64), Checks.row(9));
        CHECKS.due("at(0, 0)", x.at(0, 0), 4);
        CHECKS.due("at(0, 1)", x.at(0, 1), MIN);
        CHECKS.due("at(1, 2)", x.at(1, 2), 8);
        CHECKS.due("at(2, 0)", x.at(2, 0), 100);
        CHECKS.due("at(2, 63)", x.at(2, 63), 163);
        CHECKS.due("at(3, 0)", x.at(3, 0), 9);
        for (int vector = 0; vector < 4; vector++) {
            for (int place : new int[] {-1, -64, x.length(vector), 64, 65, 128, MAX, MIN}) {
                CHECKS.due("at(" + vector + ", " + place + ")", x.at(vector, place), 0);
            }
        }
        x.change(2, 4, 2, 3);
        CHECKS.due("at(2, 2) when shortened", x.at(2, 2), 102);
        CHECKS.due("at(2, 3) when shortened", x.at(2, 3), 0);
    }

    private static void stretches() {
        stretches(0);
        stretches(1, 0);
        stretches(1, 5);
        stretches(1, 5, 5, 5);
        stretches(2, 0, 0, 1);
        stretches(3, 5, 6, 5);
        stretches(4, 1, 1, 2, 2, 1, 3, 3);
        stretches(2, MIN, MAX);
        stretches(1, Checks.times(64, -1));
        stretches(64, Checks.upFrom(-3, 64));
        RunVectors x = Checks.with(Checks.row(1, 2, 3, 4));
        x.change(0, 4, 0, 2);
        CHECKS.due("stretches(0) when shortened", x.stretches(0), 2);
    }

    private static void stretches(int want, int... cells) {
        CHECKS.answers("stretches", want, (x, vector) -> x.stretches(vector), cells);
    }

    private static void sum() {
        sum(0);
        sum(-4, -4);
        sum(3, 1, 2, 3, -3);
        sum(2L * MAX, MAX, MAX);
        sum(2L * MIN, MIN, MIN);
        sum(-1, MAX, MIN);
        sum(64L * MAX, Checks.times(64, MAX));
        sum(64L * MIN, Checks.times(64, MIN));
        RunVectors x = Checks.with(Checks.row(1, 20, 300));
        x.change(0, 4, 0, 2);
        CHECKS.due("sum(0) when shortened", x.sum(0), 21);
    }

    private static void sum(long want, int... cells) {
        CHECKS.answers("sum", want, (x, vector) -> x.sum(vector), cells);
    }

    private static void find() {
        int[] a = {5, 6, 5, 0, MIN, 5};
        find(0, a, 5, 0);
        find(2, a, 5, 1);
        find(2, a, 5, 2);
        find(5, a, 5, 3);
        find(5, a, 5, 5);
        find(-1, a, 5, 6);
        find(-1, a, 5, 7);
        find(-1, a, 5, 64);
        find(-1, a, 5, MAX);
        find(0, a, 5, -1);
        find(0, a, 5, MIN);
        find(1, a, 6, -9);
        find(-1, a, 6, 2);
        find(3, a, 0, 0);
        find(-1, a, 0, 4);
        find(4, a, MIN, 0);
        find(-1, a, MAX, 0);
        find(-1, NONE, 0, 0);
        find(-1, NONE, 0, -1);
        find(63, Checks.upFrom(0, 64), 63, 0);
        find(63, Checks.upFrom(0, 64), 63, 63);
        find(-1, Checks.upFrom(0, 64), 63, 64);
        find(-1, Checks.upFrom(0, 64), 64, 0);
        RunVectors x = Checks.with(Checks.row(1, 2, 3));
        x.change(0, 4, 0, 2);
        CHECKS.due("find(0, 3, 0) when shortened", x.find(0, 3, 0), -1);
    }

    private static void find(int want, int[] cells, int value, int from) {
        CHECKS.answers("find of " + value + " from " + from, want, (x, vector) -> x.find(vector, value, from), cells);
    }

    private static void between() {
        int[] a = {5, 6, 5, 0, MIN, MAX, -3};
        between(2, a, 5, 5);
        between(3, a, 5, 6);
        between(4, a, 5, MAX);
        between(3, a, MIN, 0);
        between(1, a, MIN, MIN);
        between(1, a, MAX, MAX);
        between(7, a, MIN, MAX);
        between(2, a, -3, 4);
        between(0, a, 1, 4);
        between(0, a, 6, 5);
        between(0, a, MAX, MIN);
        between(0, NONE, MIN, MAX);
        between(64, Checks.times(64, 0), 0, 0);
        between(62, Checks.upFrom(0, 64), 1, 62);
        RunVectors x = Checks.with(Checks.row(1, 2, 3));
        x.change(0, 4, 0, 2);
        CHECKS.due("between(0, 1, 3) when shortened", x.between(0, 1, 3), 2);
    }

    private static void between(int want, int[] cells, int low, int high) {
        CHECKS.answers("between " + low + " and " + high, want, (x, vector) -> x.between(vector, low, high), cells);
    }

    private static void wrongVectors() {
        RunVectors x = Checks.with(Checks.row(1, 1), Checks.row(1), Checks.row(1), Checks.row(1, 1, 1));
        for (int wrong : Checks.NO_VECTORS) {
            CHECKS.due("length(" + wrong + ")", x.length(wrong), -1);
            CHECKS.due("at(" + wrong + ", 0)", x.at(wrong, 0), 0);
            CHECKS.due("at(" + wrong + ", 64)", x.at(wrong, 64), 0);
            CHECKS.due("stretches(" + wrong + ")", x.stretches(wrong), -1);
            CHECKS.due("sum(" + wrong + ")", x.sum(wrong), 0);
            CHECKS.due("find(" + wrong + ", 1, 0)", x.find(wrong, 1, 0), -1);
            CHECKS.due("between(" + wrong + ", 0, 1)", x.between(wrong, 0, 1), -1);
        }
    }

    private static void questionsChangeNothing() {
        int[][] start = {Checks.row(3, 1, 2), Checks.row(1), NONE, Checks.row(1, 1, 0)};
        RunVectors x = Checks.with(start);
        IntToLongFunction all = v -> x.length(v) + x.at(v, 1) + x.stretches(v) + x.sum(v) + x.find(v, 1, 0)
                + x.between(v, 0, 2) + x.compare(v, 1);
        for (int vector = -1; vector <= 4; vector++) {
            all.applyAsLong(vector);
        }
        CHECKS.holds("the questions", x, start);
    }
}
