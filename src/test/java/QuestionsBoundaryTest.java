/** The boundary cases that promises 5 to 10 name, sentence by sentence. */
public final class QuestionsBoundaryTest {
    private static final Checks CHECKS = new Checks();
    private static final int MIN = Checks.MIN;
    private static final int MAX = Checks.MAX;
    private static final int[] NONE = {};

    public static void main(String[] args) {
        CHECKS.sentence("Promise 5", "The number of cells of the vector", QuestionsBoundaryTest::length);
        CHECKS.sentence("Promise 5", "or -1", QuestionsBoundaryTest::lengthOfNoVector);
        CHECKS.sentence("Promise 6", "The cell at the place", QuestionsBoundaryTest::at);
        CHECKS.sentence("Promise 6", "0 if refused", QuestionsBoundaryTest::atOfNoVector);
        CHECKS.sentence("Promise 6", "or if there is no such place", QuestionsBoundaryTest::atNoPlace);
        CHECKS.sentence("Promise 7", "The number of stretches of the vector", QuestionsBoundaryTest::stretches);
        CHECKS.sentence("Promise 7", "(0 if it is empty)", QuestionsBoundaryTest::stretchesOfAnEmptyVector);
        CHECKS.sentence("Promise 7", "or -1", QuestionsBoundaryTest::stretchesOfNoVector);
        CHECKS.sentence("Promise 8", "The sum of all cells as a long", QuestionsBoundaryTest::sum);
        CHECKS.sentence("Promise 8", "0 if refused", QuestionsBoundaryTest::sumOfNoVector);
        CHECKS.sentence("Promise 9", "The least place at or behind from", QuestionsBoundaryTest::find);
        CHECKS.sentence("Promise 9", "(a negative from is taken as 0)", QuestionsBoundaryTest::findFromBelow0);
        CHECKS.sentence("Promise 9", "-1 if refused", QuestionsBoundaryTest::findInNoVector);
        CHECKS.sentence("Promise 9", "or if there is none", QuestionsBoundaryTest::findNone);
        CHECKS.sentence("Promise 10", "How many cells x with low <= x and x <= high the vector has",
                QuestionsBoundaryTest::between);
        CHECKS.sentence("Promise 10", "or -1", QuestionsBoundaryTest::betweenInNoVector);
        CHECKS.end();
    }

    private static RunVectors allFull() {
        RunVectors x = new RunVectors();
        for (int vector = 0; vector < 4; vector++) {
            x.push(vector, 1, 64);
        }
        return x;
    }

    private static void length() {
        for (int count = 0; count <= 64; count++) {
            CHECKS.answers("length", count, (x, vector) -> x.length(vector), Checks.upFrom(1, count));
        }
        RunVectors x = allFull();
        x.change(2, 5, 2, 63);
        CHECKS.due("length(2) when shortened", x.length(2), 1);
        x.change(2, 5, 2, 1);
        CHECKS.due("length(2) when emptied", x.length(2), 0);
        x.push(2, 7, 64);
        CHECKS.due("length(2) when filled again", x.length(2), 64);
    }

    private static void lengthOfNoVector() {
        for (int wrong : Checks.NO_VECTORS) {
            CHECKS.due("length(" + wrong + ")", new RunVectors().length(wrong), -1);
            CHECKS.due("length(" + wrong + ")", allFull().length(wrong), -1);
        }
    }

    private static void at() {
        int[] cells = Checks.upFrom(-3, 64);
        cells[0] = MIN;
        cells[63] = MAX;
        for (int place = 0; place < 64; place++) {
            int asked = place;
            CHECKS.answers("at " + place, cells[place], (x, vector) -> x.at(vector, asked), cells);
        }
        CHECKS.answers("at 0", -1, (x, vector) -> x.at(vector, 0), -1);
    }

    private static void atOfNoVector() {
        for (int wrong : Checks.NO_VECTORS) {
            for (int place : new int[] {0, 63, 64, -1, -64, MIN, MAX}) {
                CHECKS.due("at(" + wrong + ", " + place + ")", allFull().at(wrong, place), 0);
                CHECKS.due("at(" + wrong + ", " + place + ")", new RunVectors().at(wrong, place), 0);
            }
        }
    }

    private static void atNoPlace() {
        for (int count : new int[] {0, 1, 2, 63, 64}) {
            for (int place : new int[] {count, count + 1, 64, 65, 128, 192, 255, 256, MAX, -1, -2, -64, MIN}) {
                CHECKS.answers("at " + place, 0, (x, vector) -> x.at(vector, place), Checks.times(count, 9));
            }
        }
        RunVectors x = allFull();
        x.change(1, 4, 1, 5);
        CHECKS.due("at(1, 4) when shortened", x.at(1, 4), 1);
        CHECKS.due("at(1, 5) when shortened", x.at(1, 5), 0);
        x.change(1, 4, 1, 0);
        CHECKS.due("at(1, 0) when emptied", x.at(1, 0), 0);
    }

    private static void stretches(int want, int... cells) {
        CHECKS.answers("stretches", want, (x, vector) -> x.stretches(vector), cells);
    }

    private static void stretches() {
        stretches(1, 0);
        stretches(1, 5);
        stretches(1, -1);
        stretches(1, 5, 5);
        stretches(2, 5, 6);
        stretches(2, 0, 1);
        stretches(3, 5, 0, 5);
        stretches(3, MIN, MAX, MIN);
        stretches(1, 1000, 1000);
        stretches(1, Checks.times(64, 0));
        stretches(1, Checks.times(64, MIN));
        stretches(64, Checks.upFrom(0, 64));
        int[] last = Checks.times(64, 7);
        last[63] = 5;
        stretches(2, last);
        pushesOfOneValueMakeOneStretch();
    }

    private static void pushesOfOneValueMakeOneStretch() {
        RunVectors x = new RunVectors();
        x.push(0, 7, 3);
        x.push(0, 7, 2);
        CHECKS.due("stretches(0) of two pushes of one value", x.stretches(0), 1);
        x.push(0, 8, 2);
        x.combine(1, 9, 0, 0);
        x.change(0, 4, 0, 5);
        CHECKS.due("stretches(1) of a join", x.stretches(1), 4);
        CHECKS.due("stretches(0) when shortened", x.stretches(0), 1);
    }

    private static void stretchesOfAnEmptyVector() {
        stretches(0);
        RunVectors x = allFull();
        x.change(3, 4, 3, 0);
        CHECKS.due("stretches(3) when emptied", x.stretches(3), 0);
    }

    private static void stretchesOfNoVector() {
        for (int wrong : Checks.NO_VECTORS) {
            CHECKS.due("stretches(" + wrong + ")", new RunVectors().stretches(wrong), -1);
            CHECKS.due("stretches(" + wrong + ")", allFull().stretches(wrong), -1);
        }
    }

    private static void sum(long want, int... cells) {
        CHECKS.answers("sum", want, (x, vector) -> x.sum(vector), cells);
    }

    private static void sum() {
        sum(0);
        sum(0, 0);
        sum(MIN, MIN);
        sum(MAX, MAX);
        sum(2147483648L, MAX, 1);
        sum(-2147483649L, MIN, -1);
        sum(2L * MAX, MAX, MAX);
        sum(2L * MIN, MIN, MIN);
        sum(-1, MAX, MIN);
        sum(64L * MAX, Checks.times(64, MAX));
        sum(64L * MIN, Checks.times(64, MIN));
        sum(2016, Checks.upFrom(0, 64));
        RunVectors x = allFull();
        x.change(3, 4, 3, 2);
        CHECKS.due("sum(3) when shortened", x.sum(3), 2);
        x.change(3, 4, 3, 0);
        CHECKS.due("sum(3) when emptied", x.sum(3), 0);
    }

    private static void sumOfNoVector() {
        for (int wrong : Checks.NO_VECTORS) {
            CHECKS.due("sum(" + wrong + ")", new RunVectors().sum(wrong), 0);
            CHECKS.due("sum(" + wrong + ")", allFull().sum(wrong), 0);
        }
    }

    private static void find(int want, int value, int from, int... cells) {
        CHECKS.answers("find of " + value + " from " + from, want, (x, vector) -> x.find(vector, value, from), cells);
    }

    private static void find() {
        find(0, 7, 0, 7, 7, 8, 7);
        find(1, 7, 1, 7, 7, 8, 7);
        find(3, 7, 2, 7, 7, 8, 7);
        find(3, 7, 3, 7, 7, 8, 7);
        find(0, 0, 0, 0);
        find(0, MIN, 0, MIN, MAX);
        find(1, MAX, 0, MIN, MAX);
        find(1, 1000, 1, 1000, 1000);
        for (int from = 0; from < 64; from++) {
            find(from, 9, from, Checks.times(64, 9));
            find(63, 63, from, Checks.upFrom(0, 64));
        }
    }

    private static void findFromBelow0() {
        for (int from : new int[] {-1, -2, -63, -64, -65, -256, MIN + 1, MIN}) {
            find(0, 7, from, 7, 8, 7);
            find(1, 8, from, 7, 8, 7);
            find(0, 7, from, Checks.times(64, 7));
            find(63, 63, from, Checks.upFrom(0, 64));
            find(-1, 9, from, 7, 8, 7);
            find(-1, 0, from);
        }
    }

    private static void findInNoVector() {
        for (int wrong : Checks.NO_VECTORS) {
            for (int from : new int[] {0, 1, -1, MIN, MAX}) {
                CHECKS.due("find(" + wrong + ", 1, " + from + ")", allFull().find(wrong, 1, from), -1);
                CHECKS.due("find(" + wrong + ", 0, " + from + ")", new RunVectors().find(wrong, 0, from), -1);
            }
        }
    }

    private static void findNone() {
        find(-1, 0, 0);
        find(-1, 5, 0);
        find(-1, 5, 0, 7, 8);
        find(-1, 7, 1, 7, 8);
        find(-1, 0, 0, 7, 8);
        for (int from : new int[] {2, 3, 63, 64, 65, 128, 256, MAX - 1, MAX}) {
            find(-1, 7, from, 7, 7);
            find(-1, 0, from, 7, 7);
            find(-1, 5, from, 7, 7);
        }
        for (int from : new int[] {64, 65, 128, MAX}) {
            find(-1, 7, from, Checks.times(64, 7));
        }
        RunVectors x = Checks.with(Checks.row(7, 8, 9));
        x.change(0, 4, 0, 2);
        CHECKS.due("find(0, 9, 0) when shortened", x.find(0, 9, 0), -1);
    }

    private static void between(int want, int low, int high, int... cells) {
        CHECKS.answers("between " + low + " and " + high, want, (x, vector) -> x.between(vector, low, high), cells);
    }

    private static void between() {
        int[] a = {3, 4, 5, 6, 7};
        between(3, 4, 6, a);
        between(1, 4, 4, a);
        between(0, 6, 4, a);
        between(0, 5, 4, a);
        between(0, 8, MAX, a);
        between(0, MIN, 2, a);
        between(1, 7, MAX, a);
        between(1, MIN, 3, a);
        between(5, MIN, MAX, a);
        between(0, MAX, MIN, a);
        between(2, MIN, MAX, MIN, MAX);
        between(1, MIN, MIN, MIN, MAX);
        between(1, MAX, MAX, MIN, MAX);
        between(0, MIN + 1, MAX - 1, MIN, MAX);
        between(1, 0, MAX, MIN, MAX);
        between(1, MIN, -1, MIN, MAX);
        between(0, MIN, MAX);
        between(0, 0, 0);
        between(64, 0, 0, Checks.times(64, 0));
        between(64, 0, 63, Checks.upFrom(0, 64));
        between(62, 1, 62, Checks.upFrom(0, 64));
        RunVectors x = Checks.with(Checks.row(7, 8, 9), NONE);
        x.change(0, 4, 0, 2);
        CHECKS.due("between(0, 7, 9) when shortened", x.between(0, 7, 9), 2);
        x.change(0, 4, 0, 0);
        CHECKS.due("between(0, MIN, MAX) when emptied", x.between(0, MIN, MAX), 0);
    }

    private static void betweenInNoVector() {
        for (int wrong : Checks.NO_VECTORS) {
            CHECKS.due("between(" + wrong + ", MIN, MAX)", allFull().between(wrong, MIN, MAX), -1);
            CHECKS.due("between(" + wrong + ", 5, 4)", allFull().between(wrong, 5, 4), -1);
            CHECKS.due("between(" + wrong + ", 0, 0)", new RunVectors().between(wrong, 0, 0), -1);
        }
    }
}
