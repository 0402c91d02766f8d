/** The boundary cases of promises 6 to 8, sentence by sentence. */
public final class WalkBoundaryTest {
    private static final int BAD = -1;
    private static final int NONE = -3;
    private static final int MIN = Paths.MIN;
    private static final int MAX = Paths.MAX;

    // Below all subscripts and above all; the far ones would wrap around when 1 is added or taken away.
    private static final int[] BELOW = {MIN, MIN + 1, -1331, -11, -2, -1};
    private static final int[] ABOVE = {10, 11, 12, 121, 1331, MAX - 1, MAX};

    public static void main(String[] args) {
        Checks.sentence("6: the smallest greater than p", WalkBoundaryTest::queryOfEachPath);
        Checks.sentence("6: greater, not equal", WalkBoundaryTest::queryIsNotEqual);
        Checks.sentence("6: p is any int, no path number too", WalkBoundaryTest::queryOfNoPathNumber);
        Checks.sentence("6: p is any int, below all", WalkBoundaryTest::queryFromBelow);
        Checks.sentence("6: p is any int, above all: NONE", WalkBoundaryTest::queryFromAbove);
        Checks.sentence("6: that has a value; NONE if there is none", WalkBoundaryTest::queryOfNone);
        Checks.sentence("7: the smallest greater than s", WalkBoundaryTest::orderOfEach);
        Checks.sentence("7: s is any int, below all", WalkBoundaryTest::orderFromBelow);
        Checks.sentence("7: s is any int, above all: NONE", WalkBoundaryTest::orderFromAbove);
        Checks.sentence("7: p followed by t has a data other than 0", WalkBoundaryTest::orderSeesAnyData);
        Checks.sentence("7: NONE if there is none", WalkBoundaryTest::orderOfNone);
        Checks.sentence("7: BAD if p is no path number", WalkBoundaryTest::orderOfWrongNumber);
        Checks.sentence("7: BAD if p has length 3", WalkBoundaryTest::orderOfLength3);
        Checks.sentence("8: the greatest smaller than s", WalkBoundaryTest::orderBackOfEach);
        Checks.sentence("8: s is any int, above all", WalkBoundaryTest::orderBackFromAbove);
        Checks.sentence("8: s is any int, below all: NONE", WalkBoundaryTest::orderBackFromBelow);
        Checks.sentence("8: p followed by t has a data other than 0", WalkBoundaryTest::orderBackSeesAnyData);
        Checks.sentence("8: NONE if there is none", WalkBoundaryTest::orderBackOfNone);
        Checks.sentence("8: BAD if p is no path number", WalkBoundaryTest::orderBackOfWrongNumber);
        Checks.sentence("8: BAD if p has length 3", WalkBoundaryTest::orderBackOfLength3);
        Checks.end();
    }

    private static void queryOfEachPath() {
        for (int p : Paths.ALL) {
            Store x = Store.full();
            x.query(p, firstEdgeAfter(p));
        }
    }

    private static int firstEdgeAfter(int p) {
        for (int edge : Paths.EDGES) {
            if (edge > p) {
                return edge;
            }
        }
        return NONE;
    }

    private static void queryIsNotEqual() {
        Store x = Store.of(0, 665, 1330);
        x.query(-1, 0);
        x.query(0, 665);
        x.query(664, 665);
        x.query(665, 1330);
        x.query(1329, 1330);
        x.query(1330, NONE);
    }

    private static void queryOfNoPathNumber() {
        for (int p : Paths.WRONG) {
            Store.full().query(p, firstEdgeAfter(p));
        }
    }

    private static void queryFromBelow() {
        for (int p : new int[] {MIN, MIN + 1, -1331, -1}) {
            Store.of(0, 1330).query(p, 0);
            Store.of(1330).query(p, 1330);
            new Store().query(p, NONE);
        }
    }

    private static void queryFromAbove() {
        for (int p : new int[] {1330, 1331, 1332, 2662, MAX - 1, MAX}) {
            Store.full().query(p, NONE);
        }
    }

    private static void queryOfNone() {
        Store x = Store.of(0, 660, 665);
        x.query(665, NONE);
        x.query(0, 660);
        x.kill(660, 2);
        x.query(0, NONE);
        x.query(-1, 0);
        x.kill(0, 1);
        x.query(-1, NONE);
    }

    /** The paths of each length that may be followed, at the ends of the tree and inside. */
    private static int[] followed() {
        return new int[] {0, 121, 605, 1210, 132, 231, 660, 1221, 1320};
    }

    private static int child(int p, int t) {
        int weight = p == 0 ? 121 : p % 121 == 0 ? 11 : 1;
        return p + weight * (t + 1);
    }

    private static void orderOfEach() {
        for (int p : followed()) {
            for (int t = 0; t <= 9; t++) {
                Store x = Store.of(child(p, t));
                for (int s = -2; s <= 11; s++) {
                    x.order(p, s, s < t ? t : NONE);
                }
            }
            Store all = new Store();
            for (int t = 0; t <= 9; t++) {
                all.set(child(p, t), 0, 1);
            }
            for (int s = -1; s <= 9; s++) {
                all.order(p, s, s < 9 ? s + 1 : NONE);
            }
        }
    }

    private static void orderFromBelow() {
        for (int s : BELOW) {
            for (int p : followed()) {
                Store.of(child(p, 0), child(p, 9)).order(p, s, 0);
                Store.of(child(p, 9)).order(p, s, 9);
                new Store().order(p, s, NONE);
            }
        }
    }

    private static void orderFromAbove() {
        for (int s : ABOVE) {
            for (int p : followed()) {
                Store x = Store.of(child(p, 0), child(p, 9));
                x.order(p, s, NONE);
                x.order(p, 9, NONE);
                x.order(p, 8, 9);
            }
        }
    }

    private static void orderSeesAnyData() {
        // (2) has data 1, (5) 10 by its first path, (7) 10 by its last, (9) 11.
        Store x = Store.of(363, 738, 1088, 1210, 1330);
        x.order(0, -1, 2);
        x.order(0, 2, 5);
        x.order(0, 5, 7);
        x.order(0, 7, 9);
        x.order(726, -1, 0);
        x.order(737, -1, 0);
        x.order(968, -1, 9);
        x.order(1078, -1, 9);
        x.order(1210, -1, 9);
        x.order(1320, -1, 9);
        Store zero = new Store();
        zero.set(484, 0, 1);
        zero.order(0, -1, 3);
    }

    private static void orderOfNone() {
        // Values before p, of p itself and after all under p are not of p followed by a subscript.
        Store one = Store.of(0, 604, 605, 726);
        one.order(605, -1, NONE);
        Store two = Store.of(605, 659, 660, 671);
        two.order(660, -1, NONE);
        Store root = Store.of(0);
        root.order(0, -1, NONE);
        Store killed = Store.of(665);
        killed.kill(660, 1);
        killed.order(0, -1, NONE);
        killed.order(605, -1, NONE);
        killed.order(660, -1, NONE);
    }

    private static void orderOfWrongNumber() {
        for (int p : Paths.WRONG) {
            Store x = Store.full();
            x.order(p, -1, BAD);
            x.order(p, MIN, BAD);
            x.order(p, MAX, BAD);
        }
    }

    private static void orderOfLength3() {
        for (int p : Paths.ALL) {
            if (p % 11 != 0) {
                Store x = Store.of(p);
                x.order(p, -1, BAD);
                x.order(p, MIN, BAD);
                x.order(p, MAX, BAD);
            }
        }
    }

    private static void orderBackOfEach() {
        for (int p : followed()) {
            for (int t = 0; t <= 9; t++) {
                Store x = Store.of(child(p, t));
                for (int s = -2; s <= 11; s++) {
                    x.orderBack(p, s, s > t ? t : NONE);
                }
            }
            Store all = new Store();
            for (int t = 0; t <= 9; t++) {
                all.set(child(p, t), 0, 1);
            }
            for (int s = 10; s >= 0; s--) {
                all.orderBack(p, s, s > 0 ? s - 1 : NONE);
            }
        }
    }

    private static void orderBackFromAbove() {
        for (int s : ABOVE) {
            for (int p : followed()) {
                Store.of(child(p, 0), child(p, 9)).orderBack(p, s, 9);
                Store.of(child(p, 0)).orderBack(p, s, 0);
                new Store().orderBack(p, s, NONE);
            }
        }
    }

    private static void orderBackFromBelow() {
        for (int s : BELOW) {
            for (int p : followed()) {
                Store x = Store.of(child(p, 0), child(p, 9));
                x.orderBack(p, s, NONE);
                x.orderBack(p, 0, NONE);
                x.orderBack(p, 1, 0);
            }
        }
    }

    private static void orderBackSeesAnyData() {
        // (2) has data 1, (5) 10 by its first path, (7) 10 by its last, (9) 11.
        Store x = Store.of(363, 738, 1088, 1210, 1330);
        x.orderBack(0, 10, 9);
        x.orderBack(0, 9, 7);
        x.orderBack(0, 7, 5);
        x.orderBack(0, 5, 2);
        x.orderBack(726, 10, 0);
        x.orderBack(737, 10, 0);
        x.orderBack(968, 10, 9);
        x.orderBack(1078, 10, 9);
        x.orderBack(1210, 10, 9);
        x.orderBack(1320, 10, 9);
        Store zero = new Store();
        zero.set(484, 0, 1);
        zero.orderBack(0, 10, 3);
    }

    private static void orderBackOfNone() {
        Store one = Store.of(0, 604, 605, 726);
        one.orderBack(605, 10, NONE);
        Store two = Store.of(605, 659, 660, 671);
        two.orderBack(660, 10, NONE);
        Store root = Store.of(0);
        root.orderBack(0, 10, NONE);
        Store killed = Store.of(665);
        killed.kill(660, 1);
        killed.orderBack(0, 10, NONE);
        killed.orderBack(605, 10, NONE);
        killed.orderBack(660, 10, NONE);
    }

    private static void orderBackOfWrongNumber() {
        for (int p : Paths.WRONG) {
            Store x = Store.full();
            x.orderBack(p, 10, BAD);
            x.orderBack(p, MIN, BAD);
            x.orderBack(p, MAX, BAD);
        }
    }

    private static void orderBackOfLength3() {
        for (int p : Paths.ALL) {
            if (p % 11 != 0) {
                Store x = Store.of(p);
                x.orderBack(p, 10, BAD);
                x.orderBack(p, MIN, BAD);
                x.orderBack(p, MAX, BAD);
            }
        }
    }
}
