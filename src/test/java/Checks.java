import java.util.Arrays;
import java.util.function.ToLongBiFunction;
import java.util.function.ToLongFunction;

/** What the tests share: making objects with given cells, reading them back, and counting wrong answers. */
final class Checks {
    static final int MIN = Integer.MIN_VALUE;
    static final int MAX = Integer.MAX_VALUE;
    static final int[] NO_VECTORS = {4, 5, 64, MAX, -1, -4, MIN};

    private static final int[] NONE = {};
    private static final int[] LONGER = {77, 78, 79, 80, 81};
    private static final int[] SHORTER = {-5};
    private static final int MOST_CALLS = 512;

    private int wrong = 0;

    static int[] row(int... cells) {
        return cells;
    }

    static int[] times(int count, int value) {
        int[] cells = new int[count];
        Arrays.fill(cells, value);
        return cells;
    }

    /** first, first + 1, and so on. */
    static int[] upFrom(int first, int count) {
        int[] cells = new int[count];
        for (int i = 0; i < count; i++) {
            cells[i] = first + i;
        }
        return cells;
    }

    /** A new object whose cells can all be read back once within the calls that the document allows. */
    static RunVectors with(int[]... vectors) {
        int cells = Arrays.stream(vectors).mapToInt(each -> each.length).sum();
        if (2 * cells + 10 > MOST_CALLS) {
            throw new IllegalArgumentException("a test makes too many calls on one object");
        }
        RunVectors x = new RunVectors();
        for (int vector = 0; vector < vectors.length; vector++) {
            for (int value : vectors[vector]) {
                x.push(vector, value, 1);
            }
        }
        return x;
    }

    static int[] cells(RunVectors x, int vector) {
        int[] cells = new int[x.length(vector)];
        for (int i = 0; i < cells.length; i++) {
            cells[i] = x.at(vector, i);
        }
        return cells;
    }

    void due(String call, long got, long want) {
        if (got != want) {
            say(call + " answered " + got + ", due is " + want);
        }
    }

    void holds(String call, RunVectors x, int[]... vectors) {
        for (int vector = 0; vector < vectors.length; vector++) {
            int[] got = cells(x, vector);
            if (!Arrays.equals(got, vectors[vector])) {
                say(call + " left vector " + vector + " as " + Arrays.toString(got) + ", due is "
                        + Arrays.toString(vectors[vector]));
            }
        }
    }

    /** The call on a new object with these vectors answers want and leaves all of them as they were. */
    void leaves(String call, long want, ToLongFunction<RunVectors> made, int[]... vectors) {
        RunVectors x = with(vectors);
        due(call, made.applyAsLong(x), want);
        holds(call, x, vectors);
    }

    /** combine on vectors 0 and 1: into each of them, into a third vector and into an empty one. */
    void combines(int op, int[] a, int[] b, int... want) {
        for (int target = 0; target < 4; target++) {
            int[][] vectors = {a, b, LONGER, NONE};
            RunVectors x = with(vectors);
            String call = "combine(" + target + ", " + op + ", 0, 1) of " + show(a) + " and " + show(b);
            due(call, x.combine(target, op, 0, 1), want.length);
            vectors[target] = want;
            holds(call, x, vectors);
        }
    }

    void refusesToCombine(int op, int[] a, int[] b) {
        for (int target = 0; target < 4; target++) {
            int into = target;
            leaves("combine(" + into + ", " + op + ", 0, 1) of " + show(a) + " and " + show(b), -1,
                    x -> x.combine(into, op, 0, 1), a, b, LONGER, NONE);
        }
    }

    /** change on vector 0: into itself, into a longer and a shorter vector and into an empty one. */
    void changes(int op, int k, int[] a, int... want) {
        for (int target = 0; target < 4; target++) {
            int[][] vectors = {a, LONGER, SHORTER, NONE};
            RunVectors x = with(vectors);
            String call = "change(" + target + ", " + op + ", 0, " + k + ") of " + show(a);
            due(call, x.change(target, op, 0, k), want.length);
            vectors[target] = want;
            holds(call, x, vectors);
        }
    }

    void refusesToChange(int op, int k, int[] a) {
        for (int target = 0; target < 4; target++) {
            int into = target;
            leaves("change(" + into + ", " + op + ", 0, " + k + ") of " + show(a), -1,
                    x -> x.change(into, op, 0, k), a, LONGER, SHORTER, NONE);
        }
    }

    /** The question about a vector with these cells, at each vector number in turn. */
    void answers(String question, long want, ToLongBiFunction<RunVectors, Integer> asked, int... cells) {
        for (int vector = 0; vector < 4; vector++) {
            RunVectors x = new RunVectors();
            for (int other = 0; other < 4; other++) {
                // Full, so that reading beside the vector shows.
                if (other != vector) {
                    x.push(other, 5, 64);
                }
            }
            for (int value : cells) {
                x.push(vector, value, 1);
            }
            due(question + " on vector " + vector + " with " + show(cells), asked.applyAsLong(x, vector), want);
        }
    }

    /** Runs the test of one sentence of the document, and names the sentence if an answer in it is wrong. */
    void sentence(String section, String words, Runnable test) {
        int before = wrong;
        try {
            test.run();
        } catch (RuntimeException thrown) {
            say("thrown: " + thrown);
        }
        if (wrong != before) {
            System.out.println("BROKEN: " + section + ": \"" + words + "\"");
        }
    }

    private static String show(int[] cells) {
        return cells.length > 8 ? cells.length + " cells" : Arrays.toString(cells);
    }

    void say(String fault) {
        wrong++;
        System.out.println(fault);
    }

    void end() {
        System.out.println(wrong == 0 ? "all answers are as due" : wrong + " answers are not as due");
        if (wrong != 0) {
            System.exit(1);
        }
    }
}
