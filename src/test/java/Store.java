/** A new object under test: every call is made with the answer that is due, and none after the 512th. */
final class Store {
    private static final int PROMISED_CALLS = 512;

    private final MumpsGlobals x = new MumpsGlobals();
    private int calls = 0;

    /** The edge paths, which are 40, with the values 1 to 40 in their order. */
    static Store full() {
        Store made = new Store();
        int value = 0;
        for (int p : Paths.EDGES) {
            value++;
            made.set(p, value, 1);
        }
        return made;
    }

    /** Each of these paths with its own number for a value. */
    static Store of(int... paths) {
        Store made = new Store();
        for (int p : paths) {
            made.set(p, p, 1);
        }
        return made;
    }

    private void due(String call, int got, int want) {
        calls++;
        Checks.holds("the test keeps to the promised calls", calls <= PROMISED_CALLS);
        Checks.due(call, got, want);
    }

    void set(int p, int value, int want) {
        due("set(" + p + ", " + value + ")", x.set(p, value), want);
    }

    void kill(int p, int want) {
        due("kill(" + p + ")", x.kill(p), want);
    }

    void value(int p, int want) {
        due("value(" + p + ")", x.value(p), want);
    }

    void data(int p, int want) {
        due("data(" + p + ")", x.data(p), want);
    }

    void query(int p, int want) {
        due("query(" + p + ")", x.query(p), want);
    }

    void order(int p, int s, int want) {
        due("order(" + p + ", " + s + ")", x.order(p, s), want);
    }

    void orderBack(int p, int s, int want) {
        due("orderBack(" + p + ", " + s + ")", x.orderBack(p, s), want);
    }

    void count(int p, int want) {
        due("count(" + p + ")", x.count(p), want);
    }

    void merge(int p, int q, int want) {
        due("merge(" + p + ", " + q + ")", x.merge(p, q), want);
    }

    void size(int want) {
        due("size()", x.size(), want);
    }

    int calls() {
        return calls;
    }

    /** These pairs of a path and its value, in order, and no others. */
    void holdsOnly(int... pairs) {
        size(pairs.length / 2);
        int before = -1;
        for (int i = 0; i < pairs.length; i += 2) {
            query(before, pairs[i]);
            value(pairs[i], pairs[i + 1]);
            before = pairs[i];
        }
        query(before, MumpsGlobals.NONE);
    }

    void holdsWhatFullHolds() {
        int[] pairs = new int[2 * Paths.EDGES.size()];
        for (int i = 0; i < Paths.EDGES.size(); i++) {
            pairs[2 * i] = Paths.EDGES.get(i);
            pairs[2 * i + 1] = i + 1;
        }
        holdsOnly(pairs);
    }
}
