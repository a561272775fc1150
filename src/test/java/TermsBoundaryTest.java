import java.util.ArrayList;
import java.util.List;
import java.util.function.ToLongFunction;

/** The boundary cases that "What it is", "Terms" and promise 1 name, sentence by sentence. */
public final class TermsBoundaryTest {
    private static final Checks CHECKS = new Checks();
    private static final int MIN = Checks.MIN;
    private static final int MAX = Checks.MAX;
    private static final int[] NONE = {};

    public static void main(String[] args) {
        CHECKS.sentence("What it is", "An object is used for at most 512 calls after it has been made",
                TermsBoundaryTest::the512thCallIsRight);
        CHECKS.sentence("Terms", "VECTORS 0 to 3 have 0 to 64 cells each", TermsBoundaryTest::noCellsTo64Cells);
        CHECKS.sentence("Terms", "the cells are counted from 0", TermsBoundaryTest::cellsCountFrom0);
        CHECKS.sentence("Terms", "All are empty at the start.", TermsBoundaryTest::emptyAtTheStart);
        CHECKS.sentence("Terms", "All arithmetic on cells wraps as in Java.", TermsBoundaryTest::arithmeticWraps);
        CHECKS.sentence("Terms", "An operation reads its sources before it writes its target, so that the target may"
                + " be a source too.", TermsBoundaryTest::theTargetMayBeASource);
        CHECKS.sentence("Terms", "A call is refused if a vector number is not from 0 to 3",
                TermsBoundaryTest::wrongVectorNumbers);
        CHECKS.sentence("Terms", "a refused call answers -1 and changes nothing",
                TermsBoundaryTest::refusedCallsChangeNothing);
        CHECKS.sentence("Promise 1", "All four vectors are empty.", TermsBoundaryTest::aNewObjectIsEmpty);
        CHECKS.end();
    }

    private static void the512thCallIsRight() {
        theLastCall("push(1, 5, 64)", 64, x -> x.push(1, 5, 64));
        theLastCall("push(0, 5, 1)", -1, x -> x.push(0, 5, 1));
        theLastCall("combine(1, 9, 0, 1)", 64, x -> x.combine(1, 9, 0, 1));
        theLastCall("change(1, 10, 0, 0)", 1, x -> x.change(1, 10, 0, 0));
        theLastCall("length(0)", 64, x -> x.length(0));
        theLastCall("at(0, 63)", 510, x -> x.at(0, 63));
        theLastCall("stretches(0)", 1, x -> x.stretches(0));
        theLastCall("sum(0)", 64 * 510, x -> x.sum(0));
        theLastCall("find(0, 510, 63)", 63, x -> x.find(0, 510, 63));
        theLastCall("between(0, 510, 510)", 64, x -> x.between(0, 510, 510));
        theLastCall("compare(0, 1)", 2, x -> x.compare(0, 1));
        every512CallsThatFillAndEmpty();
        every512CallsThatAreRefused();
    }

    /** Before it, 511 calls: vector 0 gets 64 zeros, and 510 times 1 is added to each. */
    private static void theLastCall(String call, long want, ToLongFunction<RunVectors> made) {
        RunVectors x = new RunVectors();
        CHECKS.due("call 1", x.push(0, 0, 64), 64);
        for (int i = 2; i <= 511; i++) {
            CHECKS.due("call " + i + ", change(0, 0, 0, 1)", x.change(0, 0, 0, 1), 64);
        }
        CHECKS.due("call 512, " + call, made.applyAsLong(x), want);
    }

    private static void every512CallsThatFillAndEmpty() {
        RunVectors x = new RunVectors();
        for (int i = 0; i < 512; i += 4) {
            int vector = i / 4 % 4;
            CHECKS.due("call " + (i + 1) + ", push", x.push(vector, i, 64), 64);
            CHECKS.due("call " + (i + 2) + ", at", x.at(vector, 63), i);
            CHECKS.due("call " + (i + 3) + ", change to nothing", x.change(vector, 4, vector, 0), 0);
            CHECKS.due("call " + (i + 4) + ", length", x.length(vector), 0);
        }
    }

    private static void every512CallsThatAreRefused() {
        RunVectors x = new RunVectors();
        CHECKS.due("call 1, push", x.push(2, 9, 60), 60);
        for (int i = 2; i <= 511; i++) {
            CHECKS.due("call " + i + ", push", x.push(2, i, 5), -1);
        }
        CHECKS.due("call 512, push", x.push(2, 8, 4), 64);
    }

    private static void noCellsTo64Cells() {
        for (int vector = 0; vector < 4; vector++) {
            RunVectors x = new RunVectors();
            CHECKS.due("length(" + vector + ")", x.length(vector), 0);
            for (int count = 1; count <= 64; count++) {
                x.push(vector, count, 1);
                CHECKS.due("length(" + vector + ")", x.length(vector), count);
                CHECKS.due("at(" + vector + ", " + (count - 1) + ")", x.at(vector, count - 1), count);
            }
            CHECKS.due("push on 64 cells", x.push(vector, 65, 1), -1);
            CHECKS.due("length(" + vector + ")", x.length(vector), 64);
            CHECKS.due("change to 0 cells", x.change(vector, 4, vector, 0), 0);
            CHECKS.due("length(" + vector + ")", x.length(vector), 0);
        }
        allFourFullAtOnce();
    }

    private static void allFourFullAtOnce() {
        RunVectors x = new RunVectors();
        for (int vector = 0; vector < 4; vector++) {
            x.push(vector, 10 + vector, 1);
            x.push(vector, 20 + vector, 62);
            x.push(vector, 30 + vector, 1);
        }
        for (int vector = 0; vector < 4; vector++) {
            int[] want = Checks.times(64, 20 + vector);
            want[0] = 10 + vector;
            want[63] = 30 + vector;
            for (int place = 0; place < 64; place++) {
                CHECKS.due("at(" + vector + ", " + place + ")", x.at(vector, place), want[place]);
            }
        }
    }

    private static void cellsCountFrom0() {
        CHECKS.answers("at 0", 70, (x, vector) -> x.at(vector, 0), 70, 80, 90);
        CHECKS.answers("at 2", 90, (x, vector) -> x.at(vector, 2), 70, 80, 90);
        CHECKS.answers("at 63", 63, (x, vector) -> x.at(vector, 63), Checks.upFrom(0, 64));
        CHECKS.answers("find of the first cell", 0, (x, vector) -> x.find(vector, 70, 0), 70, 80, 90);
        CHECKS.answers("find of the last of 64", 63, (x, vector) -> x.find(vector, 63, 0), Checks.upFrom(0, 64));
        CHECKS.combines(10, Checks.row(70, 80, 90), Checks.row(0, 2), 70, 90);
        CHECKS.changes(9, 0, Checks.row(70, 80, 90), 0, 1, 2);
        CHECKS.changes(6, 1, Checks.row(70, 80, 90), 80, 90, 70);
    }

    private static void emptyAtTheStart() {
        for (int vector = 0; vector < 4; vector++) {
            CHECKS.due("length(" + vector + ") as the first call", new RunVectors().length(vector), 0);
            CHECKS.due("push(" + vector + ", 5, 64) as the first call", new RunVectors().push(vector, 5, 64), 64);
            CHECKS.due("between as the first call", new RunVectors().between(vector, MIN, MAX), 0);
        }
        RunVectors used = Checks.with(Checks.row(1), Checks.row(2), Checks.row(3), Checks.row(4));
        CHECKS.holds("new RunVectors() beside a used object", new RunVectors(), NONE, NONE, NONE, NONE);
        CHECKS.holds("new RunVectors()", used, Checks.row(1), Checks.row(2), Checks.row(3), Checks.row(4));
    }

    private static void arithmeticWraps() {
        CHECKS.combines(0, Checks.row(MAX, MIN, MAX, MIN), Checks.row(1, -1, MAX, MIN), MIN, MAX, -2, 0);
        CHECKS.combines(1, Checks.row(MIN, MAX, 0, MIN), Checks.row(1, -1, MIN, MAX), MAX, MIN, MIN, 1);
        CHECKS.combines(2, Checks.row(MAX, MIN, MAX, 65536, 65537), Checks.row(2, -1, MAX, 65536, 65537),
                -2, MIN, 1, 0, 131073);
        CHECKS.changes(0, 1, Checks.row(MAX, MAX - 1, -1), MIN, MAX, 0);
        CHECKS.changes(0, -1, Checks.row(MIN, MIN + 1, 0), MAX, MIN, -1);
        CHECKS.changes(0, MIN, Checks.row(MIN, -1, MAX), 0, MAX, -1);
        CHECKS.changes(1, 2, Checks.row(MAX, MIN, 1 << 30), -2, 0, MIN);
        CHECKS.changes(1, -1, Checks.row(MIN, MAX), MIN, -MAX);
        CHECKS.changes(1, 65536, Checks.row(65536, 32768), 0, MIN);
        CHECKS.changes(7, 0, Checks.row(MAX, 1, -1, MAX, 2), MAX, MIN, MAX, -2, 0);
        CHECKS.changes(11, 0, Checks.row(MIN, MAX, MIN, 0), MIN, -1, 1, MIN);
    }

    private static void theTargetMayBeASource() {
        int[] a = {3, 0, 2, 1};
        int[] b = {1, 3, 2, 0};
        int[][] ofTwo = {{4, 3, 4, 1}, {2, -3, 0, 1}, {3, 0, 4, 0}, {1, 0, 2, 0}, {3, 3, 2, 1}, {0, 1, 0, 0},
                {0, 0, 1, 0}, {3, 0, 2}, {3, 0, 0, 0, 2, 2}, {3, 0, 2, 1, 1, 3, 2, 0}, {0, 1, 2, 3}};
        int[][] ofOneTwice = {{6, 0, 4, 2}, {0, 0, 0, 0}, {9, 0, 4, 1}, a, a, {0, 0, 0, 0}, {1, 1, 1, 1},
                {3, 2, 1}, {3, 3, 3, 2, 2, 1}, {3, 0, 2, 1, 3, 0, 2, 1}, {1, 3, 2, 0}};
        for (int op = 0; op <= 10; op++) {
            combineIntoItsSources(op, a, b, ofTwo[op]);
            combineOneVectorIntoItself(op, a, ofOneTwice[op]);
        }
        // With k = 2 where k is named.
        int[] c = {3, 0, 2, 2, 1};
        int[][] ofOne = {{5, 2, 4, 4, 3}, {6, 0, 4, 4, 2}, {1, 2, 2, 0, 3}, {0, 1, 2, 2, 3}, {3, 0}, {2, 2, 1},
                {2, 2, 1, 3, 0}, {3, 3, 5, 7, 8}, {3, 3, 3, 3, 3}, {0, 2, 3, 4}, {3, 0, 2, 1}, {3, -3, 2, 0, -1}};
        for (int op = 0; op <= 11; op++) {
            changeIntoItself(op, c, ofOne[op]);
        }
    }

    private static void combineIntoItsSources(int op, int[] a, int[] b, int[] want) {
        for (int first = 0; first < 4; first++) {
            for (int second = 0; second < 4; second++) {
                if (first != second) {
                    combineInto(first, op, first, a, second, b, want);
                    combineInto(second, op, first, a, second, b, want);
                }
            }
        }
    }

    private static void combineInto(int target, int op, int first, int[] a, int second, int[] b, int[] want) {
        int[][] vectors = {{77}, {78, 79}, {80}, NONE};
        vectors[first] = a;
        vectors[second] = b;
        RunVectors x = Checks.with(vectors);
        String call = "combine(" + target + ", " + op + ", " + first + ", " + second + ")";
        CHECKS.due(call, x.combine(target, op, first, second), want.length);
        vectors[target] = want;
        CHECKS.holds(call, x, vectors);
    }

    private static void combineOneVectorIntoItself(int op, int[] a, int[] want) {
        for (int vector = 0; vector < 4; vector++) {
            combineInto(vector, op, vector, a, vector, a, want);
        }
    }

    private static void changeIntoItself(int op, int[] a, int[] want) {
        for (int vector = 0; vector < 4; vector++) {
            int[][] vectors = {{77}, {78, 79}, {80}, NONE};
            vectors[vector] = a;
            RunVectors x = Checks.with(vectors);
            String call = "change(" + vector + ", " + op + ", " + vector + ", 2)";
            CHECKS.due(call, x.change(vector, op, vector, 2), want.length);
            vectors[vector] = want;
            CHECKS.holds(call, x, vectors);
        }
    }

    private static void wrongVectorNumbers() {
        for (int wrong : Checks.NO_VECTORS) {
            CHECKS.due("push(" + wrong + ", 5, 1)", twoOnes().push(wrong, 5, 1), -1);
            CHECKS.due("length(" + wrong + ")", twoOnes().length(wrong), -1);
            CHECKS.due("stretches(" + wrong + ")", twoOnes().stretches(wrong), -1);
            CHECKS.due("find(" + wrong + ", 1, 0)", twoOnes().find(wrong, 1, 0), -1);
            CHECKS.due("between(" + wrong + ", 1, 1)", twoOnes().between(wrong, 1, 1), -1);
            CHECKS.due("at(" + wrong + ", 0)", twoOnes().at(wrong, 0), 0);
            CHECKS.due("sum(" + wrong + ")", twoOnes().sum(wrong), 0);
            CHECKS.due("compare(" + wrong + ", 0)", twoOnes().compare(wrong, 0), -1);
            CHECKS.due("compare(0, " + wrong + ")", twoOnes().compare(0, wrong), -1);
            for (int op = 0; op <= 10; op++) {
                CHECKS.due("combine(" + wrong + ", " + op + ", 0, 1)", twoOnes().combine(wrong, op, 0, 1), -1);
                CHECKS.due("combine(0, " + op + ", " + wrong + ", 1)", twoOnes().combine(0, op, wrong, 1), -1);
                CHECKS.due("combine(0, " + op + ", 1, " + wrong + ")", twoOnes().combine(0, op, 1, wrong), -1);
            }
            for (int op = 0; op <= 11; op++) {
                CHECKS.due("change(" + wrong + ", " + op + ", 0, 0)", twoOnes().change(wrong, op, 0, 0), -1);
                CHECKS.due("change(0, " + op + ", " + wrong + ", 0)", twoOnes().change(0, op, wrong, 0), -1);
            }
        }
        numbers0To3AreTaken();
    }

    private static RunVectors twoOnes() {
        return Checks.with(Checks.row(1, 1), Checks.row(1, 1), Checks.row(1, 1), Checks.row(1, 1));
    }

    private static void numbers0To3AreTaken() {
        for (int v = 0; v < 4; v++) {
            CHECKS.due("push(" + v + ", 5, 1)", twoOnes().push(v, 5, 1), 3);
            CHECKS.due("length(" + v + ")", twoOnes().length(v), 2);
            CHECKS.due("stretches(" + v + ")", twoOnes().stretches(v), 1);
            CHECKS.due("find(" + v + ", 1, 0)", twoOnes().find(v, 1, 0), 0);
            CHECKS.due("between(" + v + ", 1, 1)", twoOnes().between(v, 1, 1), 2);
            CHECKS.due("at(" + v + ", 0)", twoOnes().at(v, 0), 1);
            CHECKS.due("sum(" + v + ")", twoOnes().sum(v), 2);
            for (int w = 0; w < 4; w++) {
                CHECKS.due("compare(" + v + ", " + w + ")", twoOnes().compare(v, w), 0);
                CHECKS.due("change(" + v + ", 2, " + w + ", 0)", twoOnes().change(v, 2, w, 0), 2);
                for (int u = 0; u < 4; u++) {
                    CHECKS.due("combine(" + u + ", 9, " + v + ", " + w + ")", twoOnes().combine(u, 9, v, w), 4);
                }
            }
        }
    }

    /** Of vectors with 2 cells, 3 cells, 64 cells and none: every kind of call that the document refuses. */
    private static List<ToLongFunction<RunVectors>> refusedCalls() {
        List<ToLongFunction<RunVectors>> calls = new ArrayList<>();
        for (int wrong : Checks.NO_VECTORS) {
            calls.add(x -> x.push(wrong, 9, 1));
            calls.add(x -> x.length(wrong));
            calls.add(x -> x.stretches(wrong));
            calls.add(x -> x.find(wrong, 1, 0));
            calls.add(x -> x.between(wrong, 0, 9));
            calls.add(x -> x.compare(wrong, 1));
            calls.add(x -> x.compare(1, wrong));
            calls.add(x -> x.combine(wrong, 9, 0, 1));
            calls.add(x -> x.combine(3, 9, wrong, 1));
            calls.add(x -> x.combine(3, 9, 0, wrong));
            calls.add(x -> x.change(wrong, 2, 0, 0));
            calls.add(x -> x.change(3, 2, wrong, 0));
        }
        for (int count : new int[] {0, -1, 65, MIN, MAX}) {
            calls.add(x -> x.push(3, 9, count));
        }
        calls.add(x -> x.push(2, 9, 1));
        calls.add(x -> x.push(1, 9, 62));
        for (int target = 0; target < 4; target++) {
            addRefusedOperations(calls, target);
        }
        return calls;
    }

    private static void addRefusedOperations(List<ToLongFunction<RunVectors>> calls, int target) {
        for (int op : new int[] {-1, 11, MIN, MAX}) {
            calls.add(x -> x.combine(target, op, 0, 0));
        }
        for (int op = 0; op <= 8; op++) {
            int different = op;
            calls.add(x -> x.combine(target, different, 0, 1));
        }
        calls.add(x -> x.combine(target, 8, 2, 2));
        calls.add(x -> x.combine(target, 9, 0, 2));
        calls.add(x -> x.combine(target, 10, 1, 0));
        for (int op : new int[] {-1, 12, MIN, MAX}) {
            calls.add(x -> x.change(target, op, 0, 0));
        }
        for (int k : new int[] {-1, 4, 65, MIN, MAX}) {
            calls.add(x -> x.change(target, 4, 1, k));
            calls.add(x -> x.change(target, 5, 1, k));
        }
    }

    private static void refusedCallsChangeNothing() {
        int[][] start = {Checks.row(1, 3), Checks.row(7, 0, 8), Checks.upFrom(2, 64), NONE};
        RunVectors all = Checks.with(start);
        List<ToLongFunction<RunVectors>> calls = refusedCalls();
        for (int i = 0; i < calls.size(); i++) {
            CHECKS.leaves("refused call " + i, -1, calls.get(i), start);
            CHECKS.due("refused call " + i + " behind others", calls.get(i).applyAsLong(all), -1);
        }
        CHECKS.holds("all refused calls", all, start);
        goesOnAsIfNeverRefused(all);
    }

    private static void goesOnAsIfNeverRefused(RunVectors x) {
        CHECKS.due("combine(3, 9, 0, 1) behind refused calls", x.combine(3, 9, 0, 1), 5);
        int[] want = {1, 3, 7, 0, 8, 0};
        for (int place = 0; place < want.length; place++) {
            CHECKS.due("at(3, " + place + ") behind refused calls", x.at(3, place), want[place]);
        }
        CHECKS.due("push(1, 9, 61) behind refused calls", x.push(1, 9, 61), 64);
    }

    private static void aNewObjectIsEmpty() {
        for (int vector = 0; vector < 4; vector++) {
            int v = vector;
            RunVectors x = new RunVectors();
            CHECKS.due("length", x.length(v), 0);
            CHECKS.due("at", x.at(v, 0), 0);
            CHECKS.due("stretches", x.stretches(v), 0);
            CHECKS.due("sum", x.sum(v), 0);
            CHECKS.due("find", x.find(v, 0, 0), -1);
            CHECKS.due("between", x.between(v, MIN, MAX), 0);
            for (int other = 0; other < 4; other++) {
                CHECKS.due("compare", x.compare(v, other), 0);
                CHECKS.due("join", x.combine(v, 9, v, other), 0);
            }
            CHECKS.due("change", x.change(v, 2, v, 0), 0);
            CHECKS.due("the first 1 cells", x.change(v, 4, v, 1), -1);
        }
    }
}
