/** Four vectors of ints and array operations on them. */
public final class RunVectors {
    private static final int VECTORS = 4;
    private static final int CAPACITY = 64;
    private static final int ALL_CELLS = VECTORS * CAPACITY;

    private static final int REFUSED = -1;
    private static final int NONE = -1;
    private static final int BEFORE = -2;
    private static final int SAME = 0;
    private static final int BEHIND = 2;

    // Vector v has the CAPACITY cells from v * CAPACITY on; the first lengths[v] of them are in use.
    private final int[] cells = new int[ALL_CELLS];
    private final int[] lengths = new int[VECTORS];

    // Operations build their result here and not in the target, which may be one of their sources.
    private final int[] result = new int[CAPACITY];

    public RunVectors() {
    }

    public int push(int vector, int value, int count) {
        if (!isVector(vector) || count < 1 || count > CAPACITY) {
            return REFUSED;
        }
        int before = lengths[vector];
        if (count > CAPACITY - before) {
            return REFUSED;
        }
        int end = vector * CAPACITY + before;
        for (int i = 0; i < count; i++) {
            cells[end + i] = value;
        }
        lengths[vector] = before + count;
        return before + count;
    }

    public int combine(int target, int op, int a, int b) {
        if (!isVector(target) || !isVector(a) || !isVector(b)) {
            return REFUSED;
        }
        int made = makeCombined(op, a, b);
        return store(target, made);
    }

    public int change(int target, int op, int a, int k) {
        if (!isVector(target) || !isVector(a)) {
            return REFUSED;
        }
        int made = makeChanged(op, a, k);
        return store(target, made);
    }

    public int length(int vector) {
        return isVector(vector) ? lengths[vector] : REFUSED;
    }

    public int at(int vector, int place) {
        if (!isVector(vector) || !isPlace(vector, place)) {
            return 0;
        }
        return cell(vector, place);
    }

    public int stretches(int vector) {
        if (!isVector(vector)) {
            return REFUSED;
        }
        int count = 0;
        for (int i = 0; i < lengths[vector]; i++) {
            if (startsStretch(vector, i)) {
                count++;
            }
        }
        return count;
    }

    public long sum(int vector) {
        if (!isVector(vector)) {
            return 0;
        }
        long total = 0;
        for (int i = 0; i < lengths[vector]; i++) {
            total += cell(vector, i);
        }
        return total;
    }

    public int find(int vector, int value, int from) {
        if (!isVector(vector)) {
            return REFUSED;
        }
        int first = from < 0 ? 0 : from;
        for (int i = first; i < lengths[vector]; i++) {
            if (cell(vector, i) == value) {
                return i;
            }
        }
        return NONE;
    }

    public int between(int vector, int low, int high) {
        if (!isVector(vector)) {
            return REFUSED;
        }
        int count = 0;
        for (int i = 0; i < lengths[vector]; i++) {
            int x = cell(vector, i);
            if (low <= x && x <= high) {
                count++;
            }
        }
        return count;
    }

    public int compare(int a, int b) {
        if (!isVector(a) || !isVector(b)) {
            return REFUSED;
        }
        for (int i = 0; i < lengths[a] && i < lengths[b]; i++) {
            int x = cell(a, i);
            int y = cell(b, i);
            if (x != y) {
                return x < y ? BEFORE : BEHIND;
            }
        }
        if (lengths[a] == lengths[b]) {
            return SAME;
        }
        return lengths[a] < lengths[b] ? BEFORE : BEHIND;
    }

    private boolean isVector(int vector) {
        return vector >= 0 && vector < VECTORS;
    }

    private boolean isPlace(int vector, int place) {
        return place >= 0 && place < lengths[vector];
    }

    private int cell(int vector, int place) {
        return cells[vector * CAPACITY + place];
    }

    private boolean startsStretch(int vector, int place) {
        return place == 0 || cell(vector, place) != cell(vector, place - 1);
    }

    private int store(int target, int made) {
        if (made == REFUSED) {
            return REFUSED;
        }
        for (int i = 0; i < made; i++) {
            cells[target * CAPACITY + i] = result[i];
        }
        lengths[target] = made;
        return made;
    }

    // The makers below answer how many cells they have put into result, or REFUSED. A refused one may leave
    // some cells there: nothing reads result before the next maker has written it.

    // The numbers of the operations, here and in makeChanged and pair, are the document's.
    private int makeCombined(int op, int a, int b) {
        if (op < 0 || op > 10) {
            return REFUSED;
        }
        if (op == 9) {
            return makeJoined(a, b);
        }
        if (op == 10) {
            return makeFetched(a, b);
        }
        if (lengths[a] != lengths[b]) {
            return REFUSED;
        }
        if (op == 7) {
            return makeKept(a, b);
        }
        if (op == 8) {
            return makeRepeated(a, b);
        }
        return makePaired(op, a, b);
    }

    private int makePaired(int op, int a, int b) {
        for (int i = 0; i < lengths[a]; i++) {
            int x = cell(a, i);
            int y = cell(b, i);
            result[i] = pair(op, x, y);
        }
        return lengths[a];
    }

    private int pair(int op, int x, int y) {
        switch (op) {
            case 0:
                return x + y;
            case 1:
                return x - y;
            case 2:
                return x * y;
            case 3:
                return x < y ? x : y;
            case 4:
                return x > y ? x : y;
            case 5:
                return x < y ? 1 : 0;
            default:
                return x == y ? 1 : 0;
        }
    }

    private int makeKept(int a, int b) {
        int made = 0;
        for (int i = 0; i < lengths[a]; i++) {
            if (cell(b, i) != 0) {
                result[made] = cell(a, i);
                made++;
            }
        }
        return made;
    }

    private int makeRepeated(int a, int b) {
        int made = 0;
        for (int i = 0; i < lengths[a]; i++) {
            int x = cell(a, i);
            int times = cell(b, i);
            // Against the room that is left, since made + times could wrap.
            if (times > CAPACITY - made) {
                return REFUSED;
            }
            for (int j = 0; j < times; j++) {
                result[made] = x;
                made++;
            }
        }
        return made;
    }

    private int makeJoined(int a, int b) {
        int lengthOfA = lengths[a];
        int made = lengthOfA + lengths[b];
        if (made > CAPACITY) {
            return REFUSED;
        }
        for (int i = 0; i < lengthOfA; i++) {
            result[i] = cell(a, i);
        }
        for (int i = lengthOfA; i < made; i++) {
            result[i] = cell(b, i - lengthOfA);
        }
        return made;
    }

    private int makeFetched(int a, int b) {
        for (int i = 0; i < lengths[b]; i++) {
            int place = cell(b, i);
            if (!isPlace(a, place)) {
                return REFUSED;
            }
            result[i] = cell(a, place);
        }
        return lengths[b];
    }

    private int makeChanged(int op, int a, int k) {
        switch (op) {
            case 0:
                return makeRaised(a, k);
            case 1:
                return makeMultiplied(a, k);
            case 2:
                return makeReversed(a);
            case 3:
                return makeSorted(a);
            case 4:
                return makeFirst(a, k);
            case 5:
                return makeWithoutFirst(a, k);
            case 6:
                return makeTurned(a, k);
            case 7:
                return makeRunningSums(a);
            case 8:
                return makeRunningGreatest(a);
            case 9:
                return makePlaces(a);
            case 10:
                return makeSteps(a);
            case 11:
                return makeDifferences(a);
            default:
                return REFUSED;
        }
    }

    private int makeRaised(int a, int k) {
        for (int i = 0; i < lengths[a]; i++) {
            result[i] = k + cell(a, i);
        }
        return lengths[a];
    }

    private int makeMultiplied(int a, int k) {
        for (int i = 0; i < lengths[a]; i++) {
            result[i] = k * cell(a, i);
        }
        return lengths[a];
    }

    private int makeReversed(int a) {
        int last = lengths[a] - 1;
        for (int i = 0; i <= last; i++) {
            result[i] = cell(a, last - i);
        }
        return lengths[a];
    }

    private int makeSorted(int a) {
        for (int i = 0; i < lengths[a]; i++) {
            int x = cell(a, i);
            int gap = i;
            for (int j = i; j > 0 && result[j - 1] > x; j--) {
                result[j] = result[j - 1];
                gap = j - 1;
            }
            result[gap] = x;
        }
        return lengths[a];
    }

    private int makeFirst(int a, int k) {
        if (k < 0 || k > lengths[a]) {
            return REFUSED;
        }
        for (int i = 0; i < k; i++) {
            result[i] = cell(a, i);
        }
        return k;
    }

    private int makeWithoutFirst(int a, int k) {
        if (k < 0 || k > lengths[a]) {
            return REFUSED;
        }
        int made = lengths[a] - k;
        for (int i = 0; i < made; i++) {
            result[i] = cell(a, k + i);
        }
        return made;
    }

    private int makeTurned(int a, int k) {
        int made = lengths[a];
        if (made == 0) {
            return 0;
        }
        // The remainder of k first, since i + k could wrap.
        int remainder = k % made;
        int shift = remainder < 0 ? remainder + made : remainder;
        for (int i = 0; i < made; i++) {
            result[i] = cell(a, (i + shift) % made);
        }
        return made;
    }

    private int makeRunningSums(int a) {
        int total = 0;
        for (int i = 0; i < lengths[a]; i++) {
            total += cell(a, i);
            result[i] = total;
        }
        return lengths[a];
    }

    private int makeRunningGreatest(int a) {
        int greatest = 0;
        for (int i = 0; i < lengths[a]; i++) {
            int x = cell(a, i);
            if (i == 0 || x > greatest) {
                greatest = x;
            }
            result[i] = greatest;
        }
        return lengths[a];
    }

    private int makePlaces(int a) {
        int made = 0;
        for (int i = 0; i < lengths[a]; i++) {
            if (cell(a, i) != 0) {
                result[made] = i;
                made++;
            }
        }
        return made;
    }

    private int makeSteps(int a) {
        int made = 0;
        for (int i = 0; i < lengths[a]; i++) {
            if (startsStretch(a, i)) {
                result[made] = cell(a, i);
                made++;
            }
        }
        return made;
    }

    private int makeDifferences(int a) {
        int before = 0;
        for (int i = 0; i < lengths[a]; i++) {
            int x = cell(a, i);
            result[i] = x - before;
            before = x;
        }
        return lengths[a];
    }
}
