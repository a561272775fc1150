import java.util.Arrays;
import java.util.function.ToLongFunction;

/** What the tests share: making objects with given cells, reading them back, and counting wrong answers. */
final class Checks {
    static final int MIN = Integer.MIN_VALUE;
    static final int MAX = Integer.MAX_VALUE;
    static final int[] NO_VECTORS = {4, 5, 64, MAX, -1, -4, MIN};

    private int wrong = 0;

    static int[] row(int... cells) {
        return cells;
    }

    static int[] times(int count, int value) {
        int[] cells = new int[count];
        Arrays.fill(cells, value);
        return cells;
    }

    /** first, first + 1, and so on. */
    static int[] upFrom(int first, int count) {
        int[] cells = new int[count];
        for (int i = 0; i < count; i++) {
            cells[i] = first + i;
        }
        return cells;
    }

    static RunVectors with(int[]... vectors) {
        RunVectors x = new RunVectors();
        for (int vector = 0; vector < vectors.length; vector++) {
            for (int value : vectors[vector]) {
                x.push(vector, value, 1);
            }
        }
        return x;
    }

    static int[] cells(RunVectors x, int vector) {
        int[] cells = new int[x.length(vector)];
        for (int i = 0; i < cells.length; i++) {
            cells[i] = x.at(vector, i);
        }
        return cells;
    }

    void due(String call, long got, long want) {
        if (got != want) {
            say(call + " answered " + got + ", due is " + want);
        }
    }

    void holds(String call, RunVectors x, int[]... vectors) {
        for (int vector = 0; vector < vectors.length; vector++) {
            int[] got = cells(x, vector);
            if (!Arrays.equals(got, vectors[vector])) {
                say(call + " left vector " + vector + " as " + Arrays.toString(got) + ", due is "
                        + Arrays.toString(vectors[vector]));
            }
        }
    }

    /** The call on a new object with these vectors answers want and leaves all of them as they were. */
    void leaves(String call, long want, ToLongFunction<RunVectors> made, int[]... vectors) {
        RunVectors x = with(vectors);
        due(call, made.applyAsLong(x), want);
        holds(call, x, vectors);
    }

    void say(String fault) {
        wrong++;
        System.out.println(fault);
    }

    void end() {
        System.out.println(wrong == 0 ? "all answers are as due" : wrong + " answers are not as due");
        if (wrong != 0) {
            System.exit(1);
        }
    }
}
