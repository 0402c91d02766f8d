import java.util.ArrayList;
import java.util.List;
import java.util.TreeSet;

/** The path numbers as the document writes them, and the numbers that are none. */
final class Paths {
    static final int MIN = Integer.MIN_VALUE;
    static final int MAX = Integer.MAX_VALUE;

    private static final List<Integer> FIRST_TO_LAST = List.of(0, 1, 2, 3, 4, 5, 6, 7, 8, 9);

    /** All 1111 path numbers, in order. */
    static final List<Integer> ALL = withSubscripts(FIRST_TO_LAST);

    /** The paths of the least, a middle and the greatest subscript: as many as may have values. */
    static final List<Integer> EDGES = withSubscripts(List.of(0, 4, 9));

    /** Every wrong number near the right ones, and far ones that a narrower type would take for right ones. */
    static final List<Integer> WRONG = wrongNumbers();

    private Paths() {
    }

    static int path(int... subscripts) {
        int number = 0;
        int weight = 121;
        for (int s : subscripts) {
            number += weight * (s + 1);
            weight /= 11;
        }
        return number;
    }

    private static List<Integer> withSubscripts(List<Integer> subscripts) {
        TreeSet<Integer> found = new TreeSet<>();
        found.add(path());
        for (int a : subscripts) {
            found.add(path(a));
            for (int b : subscripts) {
                found.add(path(a, b));
                for (int c : subscripts) {
                    found.add(path(a, b, c));
                }
            }
        }
        return List.copyOf(found);
    }

    private static List<Integer> wrongNumbers() {
        TreeSet<Integer> found = new TreeSet<>();
        for (int p = -1500; p <= 3000; p++) {
            found.add(p);
        }
        for (int bit = 8; bit <= 31; bit++) {
            for (int p : new int[] {-1, 0, 121, 132, 133, 1330}) {
                found.add((1 << bit) + p);
                found.add(p - (1 << bit));
            }
        }
        found.addAll(List.of(MIN, MIN + 1, MAX - 1, MAX));
        found.removeAll(ALL);
        return new ArrayList<>(found);
    }
}
