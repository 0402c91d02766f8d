/** The boundary cases of promises 1 to 4, sentence by sentence. */
public final class SetKillValueBoundaryTest {
    private static final int BAD = -1;
    private static final int FULL = -2;
    private static final int NONE = -3;

    public static void main(String[] args) {
        Checks.sentence("1: no path has a value", SetKillValueBoundaryTest::newObjectIsEmpty);
        Checks.sentence("1: no path has a value, whatever others hold", SetKillValueBoundaryTest::newObjectIsApart);
        Checks.sentence("2: p is no path number: BAD", SetKillValueBoundaryTest::setOfWrongNumber);
        Checks.sentence("2: p has no value and 40 paths have one: FULL", SetKillValueBoundaryTest::setOfFortyFirst);
        Checks.sentence("2: 39 paths have one: not FULL", SetKillValueBoundaryTest::setOfFortieth);
        Checks.sentence("2: p has a value and 40 paths have one: not FULL", SetKillValueBoundaryTest::setAgainWhenFull);
        Checks.sentence("2: BAD is tested before FULL", SetKillValueBoundaryTest::setTestsBadFirst);
        Checks.sentence("2: 0 if it had a value before", SetKillValueBoundaryTest::setAnswers0);
        Checks.sentence("2: else 1", SetKillValueBoundaryTest::setAnswers1);
        Checks.sentence("3: the values of all paths under p", SetKillValueBoundaryTest::killTakesAllUnder);
        Checks.sentence("3: no path that is not under p", SetKillValueBoundaryTest::killLeavesNeighbours);
        Checks.sentence("3: p is no path number: BAD", SetKillValueBoundaryTest::killOfWrongNumber);
        Checks.sentence("3: how many there were, none", SetKillValueBoundaryTest::killOfNothing);
        Checks.sentence("3: how many there were, all 40", SetKillValueBoundaryTest::killOfAll);
        Checks.sentence("4: the value of path p", SetKillValueBoundaryTest::valueIsTheLastOneSet);
        Checks.sentence("4: 0 if it has none", SetKillValueBoundaryTest::valueOfNone);
        Checks.sentence("4: 0 if p is no path number", SetKillValueBoundaryTest::valueOfWrongNumber);
        Checks.end();
    }

    private static void newObjectIsEmpty() {
        for (int p : Paths.ALL) {
            Store x = new Store();
            x.value(p, 0);
            x.data(p, 0);
            x.count(p, 0);
            x.kill(p, 0);
            x.holdsOnly();
        }
        Store x = new Store();
        x.order(0, -1, NONE);
        x.orderBack(0, 10, NONE);
        x.merge(0, 0, 0);
    }

    private static void newObjectIsApart() {
        Store before = new Store();
        Store full = Store.full();
        Store after = new Store();
        before.holdsOnly();
        after.holdsOnly();
        before.set(1330, 2, 1);
        after.kill(0, 0);
        full.holdsWhatFullHolds();
    }

    private static void setOfWrongNumber() {
        for (int p : Paths.WRONG) {
            Store x = Store.of(0, 121, 132, 133, 1330);
            x.set(p, 77, BAD);
            x.holdsOnly(0, 0, 121, 121, 132, 132, 133, 133, 1330, 1330);
        }
    }

    private static void setOfFortyFirst() {
        for (int p : Paths.ALL) {
            if (!Paths.EDGES.contains(p)) {
                Store.full().set(p, 77, FULL);
            }
        }
        // Without the empty path and the last one, which the edges have.
        Store inside = new Store();
        for (int i = 0; i < 40; i++) {
            inside.set(Paths.path(4, i / 10, i % 10), i, 1);
        }
        inside.set(0, 1, FULL);
        inside.set(Paths.path(4), 1, FULL);
        inside.set(1330, 1, FULL);
        inside.size(40);
    }

    private static void setOfFortieth() {
        for (int gone : Paths.EDGES) {
            if (gone % 11 != 0) {
                Store x = Store.full();
                x.kill(gone, 1);
                x.set(gone, 77, 1);
                x.value(gone, 77);
                x.kill(gone, 1);
                x.set(Paths.path(7), 78, 1);
                x.value(Paths.path(7), 78);
                x.set(gone, 79, FULL);
                x.size(40);
            }
        }
    }

    private static void setAgainWhenFull() {
        Store x = Store.full();
        for (int p : Paths.EDGES) {
            x.set(p, -p, 0);
            x.value(p, -p);
        }
        x.size(40);
    }

    private static void setTestsBadFirst() {
        for (int p : Paths.WRONG) {
            Store.full().set(p, 77, BAD);
        }
    }

    private static void setAnswers0() {
        for (int p : Paths.EDGES) {
            Store x = new Store();
            x.set(p, 0, 1);
            x.set(p, 0, 0);
            x.set(p, 3, 0);
            x.set(p, 3, 0);
            x.holdsOnly(p, 3);
        }
    }

    private static void setAnswers1() {
        // Neither a value above or below it nor one it has lost is a value before.
        Store x = Store.of(132);
        x.set(121, 1, 1);
        x.set(133, 1, 1);
        x.set(0, 1, 1);
        x.kill(132, 2);
        x.set(132, 1, 1);
        x.set(133, 1, 1);
        x.kill(0, 4);
        x.set(0, 1, 1);
    }

    private static void killTakesAllUnder() {
        // The first and the last path under p, at each length of p, and p itself.
        Store root = Store.of(0, 121, 1330);
        root.kill(0, 3);
        root.holdsOnly();
        Store one = Store.of(605, 616, 617, 715, 725);
        one.kill(605, 5);
        one.holdsOnly();
        Store two = Store.of(660, 661, 670);
        two.kill(660, 3);
        two.holdsOnly();
        Store three = Store.of(665);
        three.kill(665, 1);
        three.holdsOnly();
        Store withoutItself = Store.of(617, 725);
        withoutItself.kill(605, 2);
        withoutItself.holdsOnly();
    }

    private static void killLeavesNeighbours() {
        Store one = Store.of(0, 484, 604, 616, 726);
        one.kill(605, 1);
        one.holdsOnly(0, 0, 484, 484, 604, 604, 726, 726);
        Store two = Store.of(0, 605, 659, 665, 671, 672);
        two.kill(660, 1);
        two.holdsOnly(0, 0, 605, 605, 659, 659, 671, 671, 672, 672);
        Store three = Store.of(0, 605, 660, 664, 665, 666);
        three.kill(665, 1);
        three.holdsOnly(0, 0, 605, 605, 660, 660, 664, 664, 666, 666);
        Store last = Store.of(0, 1210, 1320, 1329, 1330);
        last.kill(1330, 1);
        last.kill(1320, 2);
        last.kill(1210, 1);
        last.holdsOnly(0, 0);
    }

    private static void killOfWrongNumber() {
        for (int p : Paths.WRONG) {
            Store x = Store.of(0, 121, 132, 133, 1330);
            x.kill(p, BAD);
            x.holdsOnly(0, 0, 121, 121, 132, 132, 133, 133, 1330, 1330);
        }
    }

    private static void killOfNothing() {
        Store x = Store.of(0, 605, 660, 665);
        x.kill(121, 0);
        x.kill(616, 0);
        x.kill(666, 0);
        x.kill(671, 0);
        x.kill(1330, 0);
        x.holdsOnly(0, 0, 605, 605, 660, 660, 665, 665);
        x.kill(660, 2);
        x.kill(660, 0);
        x.kill(0, 2);
        x.kill(0, 0);
    }

    private static void killOfAll() {
        Store x = Store.full();
        x.kill(0, 40);
        x.holdsOnly();
        for (int i = 0; i < 40; i++) {
            x.set(Paths.path(i / 10, i % 10), i, 1);
        }
        x.set(0, 1, FULL);
        x.kill(0, 40);
    }

    private static void valueIsTheLastOneSet() {
        Store x = Store.full();
        x.holdsWhatFullHolds();
        x.set(0, Paths.MIN, 0);
        x.value(0, Paths.MIN);
        x.set(0, Paths.MAX, 0);
        x.value(0, Paths.MAX);
        x.set(1330, 0, 0);
        x.value(1330, 0);
    }

    private static void valueOfNone() {
        for (int p : Paths.EDGES) {
            Store x = Store.full();
            x.kill(p, p == 0 ? 40 : p % 121 == 0 ? 13 : p % 11 == 0 ? 4 : 1);
            x.value(p, 0);
            x.merge(p, Paths.path(7), 0);
            x.value(p, 0);
        }
        Store around = Store.of(605, 665, 671);
        around.value(0, 0);
        around.value(660, 0);
        around.value(664, 0);
        around.value(666, 0);
        around.value(672, 0);
    }

    private static void valueOfWrongNumber() {
        for (int p : Paths.WRONG) {
            Store x = Store.of(121, 132, 133, 1330);
            x.set(0, 9, 1);
            x.value(p, 0);
        }
    }
}
