import java.util.ArrayList;
import java.util.List;
import java.util.TreeMap;

/** Long runs of calls against a model that holds paths as lists of subscripts, read straight from the document. */
public final class ModelTest {
    // With the look at the whole state that ends a run this stays within the 512 calls of an object's promised life.
    private static final int CALLS = 420;

    private static long seed;

    public static void main(String[] args) {
        everyNumber();
        everyMergeOfOne();
        for (int run = 1; run <= 1000; run++) {
            // Few subscripts make a crowded tree with many meetings, all ten a wide one.
            int[] widths = {2, 3, 4, 10};
            mixedRun(run, widths[run % widths.length]);
        }
        Checks.end();
    }

    /** The document's store, with keys that are path numbers but all tests made on the lists. */
    private static final class Model {
        private final TreeMap<Integer, Integer> held = new TreeMap<>();

        static int number(List<Integer> path) {
            int[] weights = {121, 11, 1};
            int number = 0;
            for (int i = 0; i < path.size(); i++) {
                number += weights[i] * (path.get(i) + 1);
            }
            return number;
        }

        static List<Integer> path(int number) {
            return PATHS.get(number);
        }

        int set(int p, int value) {
            if (path(p) == null) {
                return MumpsGlobals.BAD;
            }
            if (!held.containsKey(p) && held.size() == 40) {
                return MumpsGlobals.FULL;
            }
            return held.put(p, value) == null ? 1 : 0;
        }

        List<Integer> under(int p) {
            List<Integer> found = new ArrayList<>();
            for (int q : held.keySet()) {
                List<Integer> whole = path(q);
                List<Integer> beginning = path(p);
                if (whole.size() >= beginning.size() && whole.subList(0, beginning.size()).equals(beginning)) {
                    found.add(q);
                }
            }
            return found;
        }

        int kill(int p) {
            if (path(p) == null) {
                return MumpsGlobals.BAD;
            }
            List<Integer> gone = under(p);
            held.keySet().removeAll(gone);
            return gone.size();
        }

        int value(int p) {
            return held.getOrDefault(p, 0);
        }

        int data(int p) {
            if (path(p) == null) {
                return MumpsGlobals.BAD;
            }
            List<Integer> all = under(p);
            int own = all.remove((Integer) p) ? 1 : 0;
            return own + (all.isEmpty() ? 0 : 10);
        }

        int query(int p) {
            Integer next = held.higherKey(p);
            return next == null ? MumpsGlobals.NONE : next;
        }

        int order(int p, int s, boolean back) {
            List<Integer> path = path(p);
            if (path == null || path.size() == 3) {
                return MumpsGlobals.BAD;
            }
            int best = MumpsGlobals.NONE;
            for (int t = 0; t <= 9; t++) {
                List<Integer> child = new ArrayList<>(path);
                child.add(t);
                boolean inRange = back ? t < s : t > s;
                boolean better = back || best == MumpsGlobals.NONE;
                if (inRange && better && data(number(child)) != 0) {
                    best = t;
                }
            }
            return best;
        }

        int count(int p) {
            return path(p) == null ? MumpsGlobals.BAD : under(p).size();
        }

        int merge(int p, int q) {
            if (path(p) == null || path(q) == null) {
                return MumpsGlobals.BAD;
            }
            TreeMap<Integer, Integer> after = new TreeMap<>(held);
            List<Integer> source = under(q);
            for (int r : source) {
                List<Integer> target = new ArrayList<>(path(p));
                target.addAll(path(r).subList(path(q).size(), path(r).size()));
                if (target.size() > 3) {
                    return MumpsGlobals.TOO_DEEP;
                }
                after.put(number(target), held.get(r));
            }
            if (after.size() > 40) {
                return MumpsGlobals.FULL;
            }
            held.clear();
            held.putAll(after);
            return source.size();
        }
    }

    private static final TreeMap<Integer, List<Integer>> PATHS = allPaths();

    private static TreeMap<Integer, List<Integer>> allPaths() {
        TreeMap<Integer, List<Integer>> all = new TreeMap<>();
        all.put(0, List.of());
        for (int a = 0; a <= 9; a++) {
            all.put(Model.number(List.of(a)), List.of(a));
            for (int b = 0; b <= 9; b++) {
                all.put(Model.number(List.of(a, b)), List.of(a, b));
                for (int c = 0; c <= 9; c++) {
                    all.put(Model.number(List.of(a, b, c)), List.of(a, b, c));
                }
            }
        }
        return all;
    }

    private static void everyNumber() {
        for (int p = -1500; p <= 3000; p++) {
            MumpsGlobals x = new MumpsGlobals();
            Model m = new Model();
            Checks.due("set(" + p + ", 6)", x.set(p, 6), m.set(p, 6));
            dueSameState("set(" + p + ", 6) alone", x, m);
            Checks.due("kill(" + p + ")", x.kill(p), m.kill(p));
            dueSameState("kill(" + p + ")", x, m);
        }
    }

    /** One value at the edges and in the middle of the tree, copied from each beginning of its path to each place. */
    private static void everyMergeOfOne() {
        for (int r : edgePaths()) {
            for (int q : edgePaths()) {
                for (int p : edgePaths()) {
                    MumpsGlobals x = new MumpsGlobals();
                    Model m = new Model();
                    x.set(r, 8);
                    m.set(r, 8);
                    String call = "set(" + r + ", 8), merge(" + p + ", " + q + ")";
                    Checks.due(call, x.merge(p, q), m.merge(p, q));
                    dueSameHeld(call, x, m);
                }
            }
        }
    }

    private static List<Integer> edgePaths() {
        List<Integer> found = new ArrayList<>();
        for (int p : PATHS.keySet()) {
            if (List.of(0, 4, 9).containsAll(PATHS.get(p))) {
                found.add(p);
            }
        }
        return found;
    }

    private static void mixedRun(int run, int width) {
        seed = run;
        MumpsGlobals x = new MumpsGlobals();
        Model m = new Model();
        for (int i = 0; i < CALLS; i++) {
            int p = somePath(width);
            int q = somePath(width);
            int v = someInt();
            int s = upTo(8) == 0 ? v : upTo(13) - 2;
            int any = upTo(8) == 0 ? v : upTo(1340) - 4;
            String call = "run " + run + ", call " + i + ": ";
            switch (upTo(16)) {
                case 0, 1, 2, 3, 4 -> Checks.due(call + "set " + p + " " + v, x.set(p, v), m.set(p, v));
                case 5 -> Checks.due(call + "kill " + p, x.kill(p), m.kill(p));
                case 6 -> Checks.due(call + "value " + p, x.value(p), m.value(p));
                case 7 -> Checks.due(call + "data " + p, x.data(p), m.data(p));
                case 8 -> Checks.due(call + "query " + any, x.query(any), m.query(any));
                case 9 -> Checks.due(call + "order " + p + " " + s, x.order(p, s), m.order(p, s, false));
                case 10 -> Checks.due(call + "orderBack " + p + " " + s, x.orderBack(p, s), m.order(p, s, true));
                case 11 -> Checks.due(call + "count " + p, x.count(p), m.count(p));
                case 12, 13, 14 -> Checks.due(call + "merge " + p + " " + q, x.merge(p, q), m.merge(p, q));
                default -> Checks.due(call + "size", x.size(), m.held.size());
            }
        }
        dueSameHeld("run " + run, x, m);
    }

    private static void dueSameHeld(String after, MumpsGlobals x, Model m) {
        Checks.due("size() after " + after, x.size(), m.held.size());
        int p = -1;
        for (int want : m.held.keySet()) {
            p = x.query(p);
            Checks.due("query after " + after, p, want);
            Checks.due("value(" + want + ") after " + after, x.value(want), m.value(want));
        }
        Checks.due("last query after " + after, x.query(p), MumpsGlobals.NONE);
    }

    private static void dueSameState(String after, MumpsGlobals x, Model m) {
        dueSameHeld(after, x, m);
        for (int p : edgePaths()) {
            Checks.due("data(" + p + ") after " + after, x.data(p), m.data(p));
            Checks.due("count(" + p + ") after " + after, x.count(p), m.count(p));
            Checks.due("order(" + p + ", -1) after " + after, x.order(p, -1), m.order(p, -1, false));
            Checks.due("orderBack(" + p + ", 10) after " + after, x.orderBack(p, 10), m.order(p, 10, true));
        }
    }

    private static int somePath(int width) {
        if (upTo(20) == 0) {
            return upTo(1400) - 30;
        }
        int length = upTo(4);
        List<Integer> path = new ArrayList<>();
        for (int i = 0; i < length; i++) {
            path.add(upTo(2) == 0 ? upTo(width) : 9 - upTo(width));
        }
        return Model.number(path);
    }

    private static int someInt() {
        int[] edges = {0, 1, -1, Integer.MIN_VALUE, Integer.MAX_VALUE};
        return upTo(4) == 0 ? edges[upTo(edges.length)] : upTo(1 << 30) - (1 << 29);
    }

    /** The same numbers on every run, so that a fault that is seen can be seen again. */
    private static int upTo(int bound) {
        seed = seed * 6364136223846793005L + 1442695040888963407L;
        return (int) ((seed >>> 33) % bound);
    }
}
