/** A store of values under paths of subscripts, kept in tree order. */
public final class MumpsGlobals {
    public static final int BAD = -1;
    public static final int FULL = -2;
    public static final int NONE = -3;
    public static final int TOO_DEEP = -4;

    private static final int MAX_VALUES = 40;
    private static final int MAX_LENGTH = 3;
    private static final int SUBSCRIPTS = 10;

    // The weights of the three subscripts in a path number, and one more than the greatest path number.
    private static final int WEIGHT_3 = 1;
    private static final int WEIGHT_2 = 11;
    private static final int WEIGHT_1 = 121;
    private static final int NUMBERS = 1331;

    // Indexed by path number, so that going up the index is going on in tree order;
    // the places of numbers that are no path numbers stay unused.
    private final boolean[] present = new boolean[NUMBERS];
    private final int[] values = new int[NUMBERS];

    // The state before a merge: its source and its target may overlap, and the old values are the ones to copy.
    private final boolean[] presentBefore = new boolean[NUMBERS];
    private final int[] valuesBefore = new int[NUMBERS];

    public MumpsGlobals() {
    }

    public int set(int p, int value) {
        if (!isPath(p)) {
            return BAD;
        }
        boolean had = present[p];
        if (!had && size() >= MAX_VALUES) {
            return FULL;
        }
        present[p] = true;
        values[p] = value;
        return had ? 0 : 1;
    }

    public int kill(int p) {
        if (!isPath(p)) {
            return BAD;
        }
        int killed = valuesUnder(p);
        int end = endOf(p);
        for (int r = p; r < end; r++) {
            present[r] = false;
        }
        return killed;
    }

    public int value(int p) {
        if (!isPath(p) || !present[p]) {
            return 0;
        }
        return values[p];
    }

    public int data(int p) {
        if (!isPath(p)) {
            return BAD;
        }
        int own = present[p] ? 1 : 0;
        int below = valuesUnder(p) - own;
        return below > 0 ? 10 + own : own;
    }

    public int query(int p) {
        // p is compared and never added to: p + 1 would wrap around for the greatest int.
        for (int r = 0; r < NUMBERS; r++) {
            if (r > p && present[r]) {
                return r;
            }
        }
        return NONE;
    }

    public int order(int p, int s) {
        if (!canBeFollowed(p)) {
            return BAD;
        }
        for (int t = 0; t < SUBSCRIPTS; t++) {
            if (t > s && hasDataAfter(p, t)) {
                return t;
            }
        }
        return NONE;
    }

    public int orderBack(int p, int s) {
        if (!canBeFollowed(p)) {
            return BAD;
        }
        for (int t = SUBSCRIPTS - 1; t >= 0; t--) {
            if (t < s && hasDataAfter(p, t)) {
                return t;
            }
        }
        return NONE;
    }

    public int count(int p) {
        return isPath(p) ? valuesUnder(p) : BAD;
    }

    public int merge(int p, int q) {
        if (!isPath(p) || !isPath(q)) {
            return BAD;
        }
        if (mergeGoesTooDeep(p, q)) {
            return TOO_DEEP;
        }
        int sizeAfter = size() + newcomersOfMerge(p, q);
        if (sizeAfter > MAX_VALUES) {
            return FULL;
        }
        int copied = valuesUnder(q);
        keepStateBefore();
        copyFromStateBefore(p, q);
        return copied;
    }

    public int size() {
        return valuesUnder(0);
    }

    private static boolean isPath(int p) {
        if (p < 0 || p >= NUMBERS) {
            return false;
        }
        int part1 = p / WEIGHT_1;
        int part2 = p / WEIGHT_2 % WEIGHT_2;
        int part3 = p % WEIGHT_2;
        // A part of 0 is a subscript that the path does not have, so it has none after it either.
        return (part1 != 0 || part2 == 0) && (part2 != 0 || part3 == 0);
    }

    private static int lengthOf(int path) {
        if (path == 0) {
            return 0;
        }
        if (path % WEIGHT_1 == 0) {
            return 1;
        }
        return path % WEIGHT_2 == 0 ? 2 : MAX_LENGTH;
    }

    /** The weight of the last subscript of a path of this length; never 0, so it may divide. */
    private static int weightAt(int length) {
        switch (length) {
            case 0:
                return NUMBERS;
            case 1:
                return WEIGHT_1;
            case 2:
                return WEIGHT_2;
            default:
                return WEIGHT_3;
        }
    }

    /** The first number after those of the paths under this one, which all stand together from it on. */
    private static int endOf(int path) {
        int length = lengthOf(path);
        return path + weightAt(length);
    }

    private int valuesUnder(int path) {
        int end = endOf(path);
        int found = 0;
        for (int r = path; r < end; r++) {
            if (present[r]) {
                found++;
            }
        }
        return found;
    }

    private static boolean canBeFollowed(int p) {
        return isPath(p) && lengthOf(p) < MAX_LENGTH;
    }

    private boolean hasDataAfter(int path, int subscript) {
        int length = lengthOf(path) + 1;
        int child = path + weightAt(length) * (subscript + 1);
        return valuesUnder(child) > 0;
    }

    private boolean mergeGoesTooDeep(int p, int q) {
        int longest = MAX_LENGTH - lengthOf(p) + lengthOf(q);
        int end = endOf(q);
        for (int r = q; r < end; r++) {
            if (present[r] && lengthOf(r) > longest) {
                return true;
            }
        }
        return false;
    }

    /** How many paths without a value a merge gives one; asked only when the merge does not go too deep. */
    private int newcomersOfMerge(int p, int q) {
        int end = endOf(q);
        int found = 0;
        for (int r = q; r < end; r++) {
            if (present[r]) {
                int target = targetOf(r, p, q);
                if (!present[target]) {
                    found++;
                }
            }
        }
        return found;
    }

    /** The path p followed by what comes after q in r; it must not be longer than a path may be. */
    private static int targetOf(int r, int p, int q) {
        int lengthP = lengthOf(p);
        int lengthQ = lengthOf(q);
        // Multiplied first: what comes after q is then a whole number of weights, and nothing is lost.
        return p + (r - q) * weightAt(lengthP) / weightAt(lengthQ);
    }

    private void keepStateBefore() {
        for (int r = 0; r < NUMBERS; r++) {
            presentBefore[r] = present[r];
            valuesBefore[r] = values[r];
        }
    }

    private void copyFromStateBefore(int p, int q) {
        int end = endOf(q);
        for (int r = q; r < end; r++) {
            if (presentBefore[r]) {
                int target = targetOf(r, p, q);
                present[target] = true;
                values[target] = valuesBefore[r];
            }
        }
    }
}
