/** The boundary cases of promises 5, 9 and 11, sentence by sentence. */
public final class DataCountSizeBoundaryTest {
    private static final int BAD = -1;
    private static final int FULL = -2;
    private static final int TOO_DEEP = -4;

    public static void main(String[] args) {
        Checks.sentence("5: 0: neither has one", DataCountSizeBoundaryTest::dataOfNeither);
        Checks.sentence("5: 1 more if path p has a value", DataCountSizeBoundaryTest::dataOfItself);
        Checks.sentence("5: 10 more if some other path under p has one", DataCountSizeBoundaryTest::dataOfOthers);
        Checks.sentence("5: 11: both", DataCountSizeBoundaryTest::dataOfBoth);
        Checks.sentence("5: BAD if p is no path number", DataCountSizeBoundaryTest::dataOfWrongNumber);
        Checks.sentence("9: the paths under p that have a value", DataCountSizeBoundaryTest::countAtEachLength);
        Checks.sentence("9: none", DataCountSizeBoundaryTest::countOfNone);
        Checks.sentence("9: all 40", DataCountSizeBoundaryTest::countOfAll);
        Checks.sentence("9: BAD if p is no path number", DataCountSizeBoundaryTest::countOfWrongNumber);
        Checks.sentence("11: none", DataCountSizeBoundaryTest::sizeOfNone);
        Checks.sentence("11: all 40", DataCountSizeBoundaryTest::sizeOfAll);
        Checks.sentence("11: each path once", DataCountSizeBoundaryTest::sizeCountsPathsOnce);
        Checks.sentence("11: after refused calls", DataCountSizeBoundaryTest::sizeAfterRefusals);
        Checks.end();
    }

    private static void dataOfNeither() {
        // Around the path: the one before it, the first after all under it, and those above it.
        Store one = Store.of(0, 604, 726);
        one.data(605, 0);
        Store two = Store.of(605, 659, 671);
        two.data(660, 0);
        Store three = Store.of(660, 664, 666);
        three.data(665, 0);
        new Store().data(0, 0);
        Store killed = Store.of(605, 665);
        killed.kill(605, 2);
        killed.data(605, 0);
        killed.data(660, 0);
        killed.data(665, 0);
        killed.data(0, 0);
    }

    private static void dataOfItself() {
        for (int p : Paths.EDGES) {
            Store x = new Store();
            x.set(p, 0, 1);
            x.data(p, 1);
        }
    }

    private static void dataOfOthers() {
        // The first and the last path under p, at each length that has any; a value of 0 is a value.
        int[][] pathAndOther = {{0, 121}, {0, 133}, {0, 1330}, {605, 616}, {605, 617}, {605, 715}, {605, 725},
            {660, 661}, {660, 670}, {1210, 1330}, {1320, 1330}};
        for (int[] pair : pathAndOther) {
            Store x = new Store();
            x.set(pair[1], 0, 1);
            x.data(pair[0], 10);
            x.data(pair[1], 1);
            x.kill(pair[1], 1);
            x.data(pair[0], 0);
        }
    }

    private static void dataOfBoth() {
        Store x = Store.full();
        for (int p : Paths.EDGES) {
            x.data(p, p % 11 == 0 ? 11 : 1);
        }
        Store two = Store.of(0, 1330);
        two.data(0, 11);
        two.kill(1330, 1);
        two.data(0, 1);
    }

    private static void dataOfWrongNumber() {
        for (int p : Paths.WRONG) {
            new Store().data(p, BAD);
            Store.of(0, 121, 132, 133, 1330).data(p, BAD);
        }
    }

    private static void countAtEachLength() {
        Store x = Store.full();
        for (int p : Paths.EDGES) {
            x.count(p, p == 0 ? 40 : p % 121 == 0 ? 13 : p % 11 == 0 ? 4 : 1);
        }
        Store one = Store.of(0, 604, 605, 617, 725, 726);
        one.count(605, 3);
        Store two = Store.of(605, 659, 660, 661, 670, 671);
        two.count(660, 3);
        Store three = Store.of(660, 664, 665, 666);
        three.count(665, 1);
    }

    private static void countOfNone() {
        Store x = Store.of(0, 604, 659, 664, 726);
        x.count(1330, 0);
        x.count(671, 0);
        x.count(665, 0);
        x.count(847, 0);
        x.kill(0, 5);
        x.count(0, 0);
        new Store().count(0, 0);
    }

    private static void countOfAll() {
        Store x = Store.full();
        x.count(0, 40);
        Store inside = new Store();
        for (int i = 0; i < 40; i++) {
            inside.set(Paths.path(9, 9 - i / 10, i % 10), 0, 1);
        }
        inside.count(0, 40);
        inside.count(Paths.path(9), 40);
        inside.count(Paths.path(9, 9), 10);
    }

    private static void countOfWrongNumber() {
        for (int p : Paths.WRONG) {
            new Store().count(p, BAD);
            Store.of(0, 121, 132, 133, 1330).count(p, BAD);
        }
    }

    private static void sizeOfNone() {
        Store x = new Store();
        x.size(0);
        x.set(0, 0, 1);
        x.size(1);
        x.kill(0, 1);
        x.size(0);
    }

    private static void sizeOfAll() {
        Store x = Store.full();
        x.size(40);
        x.kill(1330, 1);
        x.size(39);
        x.set(1330, 0, 1);
        x.size(40);
    }

    private static void sizeCountsPathsOnce() {
        Store x = Store.of(0, 1330);
        x.set(0, 5, 0);
        x.size(2);
        x.merge(0, 0, 2);
        x.size(2);
        x.merge(0, 1330, 1);
        x.size(2);
        x.merge(121, 1330, 1);
        x.size(3);
    }

    private static void sizeAfterRefusals() {
        Store x = Store.full();
        x.set(1, 5, BAD);
        x.set(Paths.path(7), 5, FULL);
        x.kill(1, BAD);
        x.merge(Paths.path(7), Paths.path(4), FULL);
        x.merge(Paths.path(7), 0, TOO_DEEP);
        x.size(40);
    }
}
