import java.util.ArrayList;
import java.util.Collections;
import java.util.List;

/**
 * Long runs of mixed calls, each answer held against a second writing of the document over lists.
 * The runs are the same every time, and no object gets more than the 512 calls that the document allows.
 */
public final class LongRunsTest {
    private static final int RUNS = 3000;
    private static final int CALLS = 250;
    private static final int[] EDGES = {Integer.MIN_VALUE, Integer.MAX_VALUE, -1, 64, 65, 63, 1 << 30, 65536};

    private final Checks checks;
    private final RunVectors x = new RunVectors();
    private final List<List<Integer>> model = new ArrayList<>();
    private long state;

    private LongRunsTest(Checks checks, int run) {
        this.checks = checks;
        this.state = run * 0x9E3779B97F4A7C15L + 1;
        for (int vector = 0; vector < 4; vector++) {
            model.add(new ArrayList<>());
        }
    }

    public static void main(String[] args) {
        Checks checks = new Checks();
        for (int run = 0; run < RUNS; run++) {
            new LongRunsTest(checks, run).play(run);
        }
        checks.end();
    }

    private void play(int run) {
        for (int i = 0; i < CALLS; i++) {
            call("run " + run + ", call " + i + ": ");
        }
        for (int vector = 0; vector < 4; vector++) {
            if (x.length(vector) != model.get(vector).size()) {
                checks.say("run " + run + " ends with a wrong length of vector " + vector);
                continue;
            }
            for (int i = 0; i < model.get(vector).size(); i++) {
                checks.due("run " + run + ", at(" + vector + ", " + i + ")", x.at(vector, i), model.get(vector).get(i));
            }
        }
    }

    private int below(int bound) {
        state = state * 6364136223846793005L + 1442695040888963407L;
        return (int) ((state >>> 33) % bound);
    }

    private int vector() {
        return below(40) == 0 ? (below(2) == 0 ? -1 : 4) : below(4);
    }

    private int number() {
        int kind = below(12);
        if (kind == 0) {
            return EDGES[below(EDGES.length)];
        }
        return kind < 8 ? below(5) - 1 : below(80) - 8;
    }

    private void call(String where) {
        int a = vector();
        int b = vector();
        int target = vector();
        int m = number();
        int n = number();
        switch (below(14)) {
            case 0, 1, 2 -> {
                int count = below(8) == 0 ? n : 1 + below(5);
                checks.due(where + "push(" + a + ", " + m + ", " + count + ")", x.push(a, m, count), push(a, m, count));
            }
            case 3, 4 -> {
                int op = below(13) - 1;
                checks.due(where + "combine(" + target + ", " + op + ", " + a + ", " + b + ")",
                        x.combine(target, op, a, b), keepIn(target, combined(target, op, a, b)));
            }
            case 5, 6, 7 -> {
                int op = below(14) - 1;
                checks.due(where + "change(" + target + ", " + op + ", " + a + ", " + m + ")",
                        x.change(target, op, a, m), keepIn(target, changed(target, op, a, m)));
            }
            default -> question(where, a, b, m, n);
        }
    }

    private void question(String where, int a, int b, int m, int n) {
        boolean refused = a < 0 || a > 3;
        List<Integer> v = refused ? List.of() : model.get(a);
        switch (below(7)) {
            case 0 -> checks.due(where + "length(" + a + ")", x.length(a), refused ? -1 : v.size());
            case 1 -> checks.due(where + "at(" + a + ", " + m + ")", x.at(a, m), m >= 0 && m < v.size() ? v.get(m) : 0);
            case 2 -> checks.due(where + "stretches(" + a + ")", x.stretches(a), refused ? -1 : steps(v).size());
            case 3 -> checks.due(where + "sum(" + a + ")", x.sum(a), v.stream().mapToLong(c -> c).sum());
            case 4 -> {
                int from = Math.min(Math.max(n, 0), v.size());
                int found = v.subList(from, v.size()).indexOf(m);
                checks.due(where + "find(" + a + ", " + m + ", " + n + ")", x.find(a, m, n),
                        found < 0 ? -1 : from + found);
            }
            case 5 -> checks.due(where + "between(" + a + ", " + m + ", " + n + ")", x.between(a, m, n),
                    refused ? -1 : v.stream().filter(c -> c >= m && c <= n).count());
            default -> {
                boolean any = refused || b < 0 || b > 3;
                checks.due(where + "compare(" + a + ", " + b + ")", x.compare(a, b), any ? -1 : order(v, model.get(b)));
            }
        }
    }

    private static int order(List<Integer> a, List<Integer> b) {
        int[] first = a.stream().mapToInt(c -> c).toArray();
        int[] second = b.stream().mapToInt(c -> c).toArray();
        return 2 * Integer.signum(java.util.Arrays.compare(first, second));
    }

    private int push(int vector, int value, int count) {
        if (vector < 0 || vector > 3 || count < 1 || count > 64 || model.get(vector).size() + count > 64) {
            return -1;
        }
        model.get(vector).addAll(Collections.nCopies(count, value));
        return model.get(vector).size();
    }

    /** No list stands for a refused call. */
    private int keepIn(int target, List<Integer> made) {
        if (made == null) {
            return -1;
        }
        model.set(target, made);
        return made.size();
    }

    private List<Integer> combined(int target, int op, int first, int second) {
        if (target < 0 || target > 3 || first < 0 || first > 3 || second < 0 || second > 3 || op < 0 || op > 10) {
            return null;
        }
        List<Integer> a = model.get(first);
        List<Integer> b = model.get(second);
        List<Integer> made = new ArrayList<>();
        if (op == 9) {
            made.addAll(a);
            made.addAll(b);
            return made.size() > 64 ? null : made;
        }
        if (op == 10) {
            for (int y : b) {
                if (y < 0 || y >= a.size()) {
                    return null;
                }
                made.add(a.get(y));
            }
            return made;
        }
        if (a.size() != b.size()) {
            return null;
        }
        if (op == 8 && b.stream().mapToLong(y -> Math.max(y, 0)).sum() > 64) {
            return null;
        }
        for (int i = 0; i < a.size(); i++) {
            made.addAll(cellsFor(op, a.get(i), b.get(i)));
        }
        return made;
    }

    private static List<Integer> cellsFor(int op, int x, int y) {
        return switch (op) {
            case 0 -> List.of((int) ((long) x + y));
            case 1 -> List.of((int) ((long) x - y));
            case 2 -> List.of((int) ((long) x * y));
            case 3 -> List.of(Math.min(x, y));
            case 4 -> List.of(Math.max(x, y));
            case 5 -> List.of(Integer.compare(x, y) < 0 ? 1 : 0);
            case 6 -> List.of(Integer.compare(x, y) == 0 ? 1 : 0);
            case 7 -> y != 0 ? List.of(x) : List.of();
            default -> Collections.nCopies(Math.max(y, 0), x);
        };
    }

    private List<Integer> changed(int target, int op, int source, int k) {
        if (target < 0 || target > 3 || source < 0 || source > 3 || op < 0 || op > 11) {
            return null;
        }
        List<Integer> a = model.get(source);
        if ((op == 4 || op == 5) && (k < 0 || k > a.size())) {
            return null;
        }
        List<Integer> made = new ArrayList<>(a);
        switch (op) {
            case 0 -> made.replaceAll(c -> (int) ((long) k + c));
            case 1 -> made.replaceAll(c -> (int) ((long) k * c));
            case 2 -> Collections.reverse(made);
            case 3 -> Collections.sort(made);
            case 4 -> made = new ArrayList<>(a.subList(0, k));
            case 5 -> made = new ArrayList<>(a.subList(k, a.size()));
            case 10 -> made = steps(a);
            default -> {
                made.clear();
                for (int i = 0; i < a.size(); i++) {
                    addPlace(made, op, a, i, k);
                }
            }
        }
        return made;
    }

    private static void addPlace(List<Integer> made, int op, List<Integer> a, int i, int k) {
        switch (op) {
            case 6 -> made.add(a.get((int) Math.floorMod((long) i + k, (long) a.size())));
            case 7 -> made.add((int) a.subList(0, i + 1).stream().mapToLong(c -> c).sum());
            case 8 -> made.add(Collections.max(a.subList(0, i + 1)));
            case 9 -> {
                if (a.get(i) != 0) {
                    made.add(i);
                }
            }
            default -> made.add(i == 0 ? a.get(0) : (int) ((long) a.get(i) - a.get(i - 1)));
        }
    }

    private static List<Integer> steps(List<Integer> a) {
        List<Integer> made = new ArrayList<>();
        for (Integer c : a) {
            if (made.isEmpty() || !made.get(made.size() - 1).equals(c)) {
                made.add(c);
            }
        }
        return made;
    }
}
