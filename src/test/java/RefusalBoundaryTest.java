import java.util.function.Consumer;

/** The boundary cases of promise 12, sentence by sentence. */
public final class RefusalBoundaryTest {
    private static final int BAD = -1;
    private static final int FULL = -2;
    private static final int NONE = -3;
    private static final int TOO_DEEP = -4;

    public static void main(String[] args) {
        Checks.sentence("12: order: BAD is tested before NONE", RefusalBoundaryTest::orderTestsBadFirst);
        Checks.sentence("12: orderBack: BAD is tested before NONE", RefusalBoundaryTest::orderBackTestsBadFirst);
        Checks.sentence("12: set of a wrong number changes nothing", () -> wrongNumber((x, p) -> x.set(p, 77, BAD)));
        Checks.sentence("12: kill of a wrong number changes nothing", () -> wrongNumber((x, p) -> x.kill(p, BAD)));
        Checks.sentence("12: value of a wrong number changes nothing", () -> wrongNumber((x, p) -> x.value(p, 0)));
        Checks.sentence("12: data of a wrong number changes nothing", () -> wrongNumber((x, p) -> x.data(p, BAD)));
        Checks.sentence("12: count of a wrong number changes nothing", () -> wrongNumber((x, p) -> x.count(p, BAD)));
        Checks.sentence("12: order of a wrong number changes nothing",
            () -> wrongNumber((x, p) -> x.order(p, -1, BAD)));
        Checks.sentence("12: orderBack of a wrong number changes nothing",
            () -> wrongNumber((x, p) -> x.orderBack(p, 10, BAD)));
        Checks.sentence("12: merge to a wrong number changes nothing",
            () -> wrongNumber((x, p) -> x.merge(p, 1330, BAD)));
        Checks.sentence("12: merge of a wrong number changes nothing",
            () -> wrongNumber((x, p) -> x.merge(1330, p, BAD)));
        Checks.sentence("12: order after length 3 changes nothing", () -> unchanged(x -> x.order(1330, -1, BAD)));
        Checks.sentence("12: orderBack after length 3 changes nothing",
            () -> unchanged(x -> x.orderBack(1330, 10, BAD)));
        Checks.sentence("12: a value that is not there: nothing changes", () -> unchanged(x -> x.value(242, 0)));
        Checks.sentence("12: data that is not there: nothing changes", () -> unchanged(x -> x.data(242, 0)));
        Checks.sentence("12: a kill of what is not there changes nothing", () -> unchanged(x -> x.kill(242, 0)));
        Checks.sentence("12: a count of what is not there changes nothing", () -> unchanged(x -> x.count(242, 0)));
        Checks.sentence("12: no next path: nothing changes", () -> unchanged(x -> x.query(1330, NONE)));
        Checks.sentence("12: no next subscript: nothing changes", () -> unchanged(x -> x.order(0, 9, NONE)));
        Checks.sentence("12: no subscript before: nothing changes", () -> unchanged(x -> x.orderBack(0, 0, NONE)));
        Checks.sentence("12: a merge of what is not there changes nothing", () -> unchanged(x -> x.merge(0, 242, 0)));
        Checks.sentence("12: set at the limit changes nothing", RefusalBoundaryTest::setAtTheLimit);
        Checks.sentence("12: merge at the limit of 40 changes nothing", RefusalBoundaryTest::mergeAtTheLimit);
        Checks.sentence("12: merge at the limit of 3 changes nothing", RefusalBoundaryTest::mergeTooDeep);
        Checks.sentence("12: after a refused call the next ones answer as without it",
            RefusalBoundaryTest::goesOnAfterRefusals);
        Checks.end();
    }

    private interface CallOnPath {
        void make(Store x, int p);
    }

    /** One refused call for each wrong number on a full object, and the whole state looked at after it. */
    private static void wrongNumber(CallOnPath call) {
        for (int p : Paths.WRONG) {
            unchanged(x -> call.make(x, p));
        }
    }

    private static void unchanged(Consumer<Store> call) {
        Store x = Store.full();
        call.accept(x);
        x.holdsWhatFullHolds();
    }

    private static void orderTestsBadFirst() {
        // There is nothing to find in an empty object, nor after the last subscript.
        for (int p : Paths.WRONG) {
            new Store().order(p, -1, BAD);
            Store.full().order(p, 9, BAD);
            Store.full().order(p, Paths.MAX, BAD);
        }
        for (int p : Paths.ALL) {
            if (p % 11 != 0) {
                new Store().order(p, -1, BAD);
                Store.full().order(p, 9, BAD);
                Store.full().order(p, Paths.MAX, BAD);
            }
        }
    }

    private static void orderBackTestsBadFirst() {
        for (int p : Paths.WRONG) {
            new Store().orderBack(p, 10, BAD);
            Store.full().orderBack(p, 0, BAD);
            Store.full().orderBack(p, Paths.MIN, BAD);
        }
        for (int p : Paths.ALL) {
            if (p % 11 != 0) {
                new Store().orderBack(p, 10, BAD);
                Store.full().orderBack(p, 0, BAD);
                Store.full().orderBack(p, Paths.MIN, BAD);
            }
        }
    }

    private static void setAtTheLimit() {
        for (int p : Paths.ALL) {
            if (!Paths.EDGES.contains(p)) {
                unchanged(x -> x.set(p, 77, FULL));
            }
        }
    }

    private static void mergeAtTheLimit() {
        for (int p : Paths.ALL) {
            if (!Paths.EDGES.contains(p)) {
                unchanged(x -> x.merge(p, 1330, FULL));
            }
        }
        unchanged(x -> x.merge(Paths.path(7), Paths.path(0), FULL));
        unchanged(x -> x.merge(Paths.path(0, 7), Paths.path(0, 0), FULL));
    }

    private static void mergeTooDeep() {
        for (int p : Paths.EDGES) {
            if (p != 0) {
                unchanged(x -> x.merge(p, 0, TOO_DEEP));
            }
        }
        unchanged(x -> x.merge(Paths.path(4, 4), Paths.path(0), TOO_DEEP));
        unchanged(x -> x.merge(Paths.path(4, 4, 4), Paths.path(0, 0), TOO_DEEP));
    }

    private static void goesOnAfterRefusals() {
        Store x = Store.full();
        for (int i = 0; i < 50; i++) {
            x.set(Paths.path(7), 77, FULL);
            x.set(1, 77, BAD);
            x.merge(Paths.path(7), Paths.path(4), FULL);
            x.merge(Paths.path(7), 0, TOO_DEEP);
            x.kill(1, BAD);
        }
        x.value(Paths.path(7), 0);
        x.kill(1330, 1);
        x.set(Paths.path(7), 78, 1);
        x.set(1330, 79, FULL);
        x.value(Paths.path(7), 78);
        x.size(40);
    }
}
