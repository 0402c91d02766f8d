/** The boundary cases of promise 10, sentence by sentence. */
public final class MergeBoundaryTest {
    private static final int BAD = -1;
    private static final int FULL = -2;
    private static final int TOO_DEEP = -4;

    public static void main(String[] args) {
        Checks.sentence("10: everything under q", MergeBoundaryTest::copiesFirstAndLast);
        Checks.sentence("10: nothing that is not under q", MergeBoundaryTest::leavesNeighboursOut);
        Checks.sentence("10: p followed by what comes after q", MergeBoundaryTest::targetsOfEachLength);
        Checks.sentence("10: as it was before the call, p under q", MergeBoundaryTest::sourceAboveTarget);
        Checks.sentence("10: as it was before the call, q under p", MergeBoundaryTest::sourceBelowTarget);
        Checks.sentence("10: as it was before the call, p is q", MergeBoundaryTest::sourceIsTarget);
        Checks.sentence("10: values under p that are not replaced stay", MergeBoundaryTest::othersStay);
        Checks.sentence("10: p is no path number: BAD", MergeBoundaryTest::wrongTarget);
        Checks.sentence("10: q is no path number: BAD", MergeBoundaryTest::wrongSource);
        Checks.sentence("10: BAD is tested before TOO_DEEP and FULL", MergeBoundaryTest::badIsFirst);
        Checks.sentence("10: a length above 3: TOO_DEEP", MergeBoundaryTest::tooDeep);
        Checks.sentence("10: a length of 3: not TOO_DEEP", MergeBoundaryTest::justDeepEnough);
        Checks.sentence("10: a path without a value is not too deep", MergeBoundaryTest::emptyIsNotDeep);
        Checks.sentence("10: TOO_DEEP is tested before FULL", MergeBoundaryTest::tooDeepIsBeforeFull);
        Checks.sentence("10: more than 40 after it: FULL", MergeBoundaryTest::fortyOneAfter);
        Checks.sentence("10: 40 after it: not FULL", MergeBoundaryTest::fortyAfter);
        Checks.sentence("10: replaced values need no room", MergeBoundaryTest::replacedNeedNoRoom);
        Checks.sentence("10: nothing changes when BAD", MergeBoundaryTest::badChangesNothing);
        Checks.sentence("10: nothing changes when TOO_DEEP", MergeBoundaryTest::tooDeepChangesNothing);
        Checks.sentence("10: nothing changes when FULL", MergeBoundaryTest::fullChangesNothing);
        Checks.sentence("10: how many values were copied, none", MergeBoundaryTest::copiesNone);
        Checks.sentence("10: how many values were copied, all 40", MergeBoundaryTest::copiesAll);
        Checks.sentence("10: how many values were copied, replaced ones too", MergeBoundaryTest::countsReplaced);
        Checks.end();
    }

    private static int path(int... subscripts) {
        return Paths.path(subscripts);
    }

    private static void copiesFirstAndLast() {
        Store one = Store.of(605, 616, 617, 715, 725);
        one.merge(1210, 605, 5);
        one.holdsOnly(605, 605, 616, 616, 617, 617, 715, 715, 725, 725,
            1210, 605, 1221, 616, 1222, 617, 1320, 715, 1330, 725);
        Store two = Store.of(660, 661, 670);
        two.merge(132, 660, 3);
        two.holdsOnly(132, 660, 133, 661, 142, 670, 660, 660, 661, 661, 670, 670);
        Store three = Store.of(665);
        three.merge(1330, 665, 1);
        three.holdsOnly(665, 665, 1330, 665);
    }

    private static void leavesNeighboursOut() {
        Store one = Store.of(0, 604, 617, 726);
        one.merge(121, 605, 1);
        one.holdsOnly(0, 0, 133, 617, 604, 604, 617, 617, 726, 726);
        Store two = Store.of(605, 659, 661, 671);
        two.merge(132, 660, 1);
        two.holdsOnly(133, 661, 605, 605, 659, 659, 661, 661, 671, 671);
        Store three = Store.of(660, 664, 666);
        three.merge(121, 665, 0);
        three.holdsOnly(660, 660, 664, 664, 666, 666);
    }

    private static void targetsOfEachLength() {
        // The same two subscripts, 3 and 7, after q of the lengths 0 and 1, to p of the lengths 0 and 1.
        int[] tops = {0, path(0), path(9)};
        for (int p : tops) {
            for (int q : tops) {
                Store x = new Store();
                x.set(q == 0 ? path(3, 7) : q + 11 * 4 + 8, 5, 1);
                x.merge(p, q, 1);
                x.value(p == 0 ? path(3, 7) : p + 11 * 4 + 8, 5);
                x.size(p == q ? 1 : 2);
            }
        }
        // One subscript, 6, after q of each length to p of each length that leaves room for it.
        int[][] pathAndChild = {{0, path(6)}, {path(0), path(0, 6)}, {path(9), path(9, 6)},
            {path(0, 0), path(0, 0, 6)}, {path(9, 9), path(9, 9, 6)}};
        for (int[] to : pathAndChild) {
            for (int[] from : pathAndChild) {
                Store x = new Store();
                x.set(from[1], 5, 1);
                x.merge(to[0], from[0], 1);
                x.value(to[1], 5);
                x.size(to[0] == from[0] ? 1 : 2);
            }
        }
        // Nothing after q, from each path to each path.
        for (int p : Paths.EDGES) {
            for (int q : Paths.EDGES) {
                Store x = new Store();
                x.set(q, 5, 1);
                x.merge(p, q, 1);
                x.value(p, 5);
                x.size(p == q ? 1 : 2);
            }
        }
    }

    private static void sourceAboveTarget() {
        // A value copied to a path that is itself still to be copied must not go on from there.
        Store low = Store.of(0, path(0), path(0, 0));
        low.merge(path(0), 0, 3);
        low.holdsOnly(0, 0, 121, 0, 132, 121, 133, 132);
        Store high = Store.of(0, path(9), path(9, 9));
        high.merge(path(9), 0, 3);
        high.holdsOnly(0, 0, 1210, 0, 1320, 1210, 1330, 1320);
        Store once = Store.of(0);
        once.merge(path(0), 0, 1);
        once.holdsOnly(0, 0, 121, 0);
        Store inside = Store.of(path(4), path(4, 4));
        inside.merge(path(4, 4), path(4), 2);
        inside.holdsOnly(605, 605, 660, 605, 665, 660);
        Store far = Store.of(0);
        far.merge(1330, 0, 1);
        far.holdsOnly(0, 0, 1330, 0);
    }

    private static void sourceBelowTarget() {
        Store low = Store.of(path(0), path(0, 0), path(0, 0, 0));
        low.merge(0, path(0), 3);
        low.holdsOnly(0, 121, 121, 132, 132, 133, 133, 133);
        Store high = Store.of(path(9), path(9, 9), path(9, 9, 9));
        high.merge(0, path(9), 3);
        high.holdsOnly(0, 1210, 1210, 1320, 1320, 1330, 1330, 1330);
        Store inside = Store.of(path(4, 4), path(4, 4, 4));
        inside.merge(path(4), path(4, 4), 2);
        inside.holdsOnly(605, 660, 660, 665, 665, 665);
        Store deep = Store.of(0, path(4, 4, 4));
        deep.merge(0, path(4, 4, 4), 1);
        deep.holdsOnly(0, 665, 665, 665);
    }

    private static void sourceIsTarget() {
        for (int p : Paths.EDGES) {
            Store x = Store.full();
            x.merge(p, p, p == 0 ? 40 : p % 121 == 0 ? 13 : p % 11 == 0 ? 4 : 1);
            x.holdsWhatFullHolds();
        }
        for (int p : Paths.ALL) {
            new Store().merge(p, p, 0);
        }
    }

    private static void othersStay() {
        Store x = Store.of(path(1), path(1, 5), path(2), path(2, 5, 5), path(2, 6), path(2, 9, 9));
        x.merge(path(2), path(1), 2);
        x.value(path(2), path(1));
        x.value(path(2, 5), path(1, 5));
        x.value(path(2, 5, 5), path(2, 5, 5));
        x.value(path(2, 6), path(2, 6));
        x.value(path(2, 9, 9), path(2, 9, 9));
        x.size(7);
        // A path without a value replaces none.
        Store bare = Store.of(path(1, 5), path(2));
        bare.merge(path(2), path(1), 1);
        bare.value(path(2), path(2));
        Store empty = Store.of(0, path(2), path(2, 9, 9));
        empty.merge(path(2), path(1), 0);
        empty.holdsOnly(0, 0, path(2), path(2), path(2, 9, 9), path(2, 9, 9));
        // A value of 0 replaces.
        Store zero = Store.of(path(2));
        zero.set(path(1), 0, 1);
        zero.merge(path(2), path(1), 1);
        zero.value(path(2), 0);
    }

    private static void wrongTarget() {
        for (int p : Paths.WRONG) {
            new Store().merge(p, 0, BAD);
            Store.of(0, 121, 132, 133, 1330).merge(p, 1330, BAD);
        }
    }

    private static void wrongSource() {
        for (int q : Paths.WRONG) {
            new Store().merge(0, q, BAD);
            Store.of(0, 121, 132, 133, 1330).merge(0, q, BAD);
        }
    }

    private static void badIsFirst() {
        for (int wrong : Paths.WRONG) {
            Store x = Store.full();
            x.merge(wrong, 0, BAD);
            x.merge(wrong, path(4), BAD);
            x.merge(path(7), wrong, BAD);
            x.merge(1330, wrong, BAD);
            x.merge(wrong, wrong, BAD);
        }
    }

    private static void tooDeep() {
        // One value at the end of a path of 1 to 3 subscripts after q, to a p that is one too long for it.
        int[][] valueAndSourceAndTarget = {
            {path(9), 0, path(5, 5, 5)}, {path(0), 0, path(5, 5, 5)},
            {path(3, 3), 0, path(5, 5)}, {path(3, 3), 0, path(5, 5, 5)}, {path(3, 3), path(3), path(5, 5, 5)},
            {path(3, 3, 3), 0, path(5)}, {path(3, 3, 3), 0, path(5, 5)}, {path(3, 3, 3), 0, path(5, 5, 5)},
            {path(3, 3, 3), path(3), path(5, 5)}, {path(3, 3, 3), path(3), path(5, 5, 5)},
            {path(3, 3, 3), path(3, 3), path(5, 5, 5)}, {path(3, 3, 3), path(3, 3), path(3, 3, 3)},
            {path(3, 3, 3), path(3), path(3, 3)}, {path(9, 9, 9), 0, path(9)}, {path(0, 0, 0), 0, path(0)}};
        for (int[] row : valueAndSourceAndTarget) {
            Store.of(row[0]).merge(row[2], row[1], TOO_DEEP);
            // One that is too deep is enough, whether it comes last or first.
            Store before = Store.of(row[0]);
            before.set(row[1], 1, 1);
            before.merge(row[2], row[1], TOO_DEEP);
        }
        Store first = Store.of(path(0, 0, 0), path(9));
        first.merge(path(5), 0, TOO_DEEP);
    }

    private static void justDeepEnough() {
        int[][] valueAndSourceAndTargetAndCopy = {
            {path(9), 0, path(5, 5), path(5, 5, 9)}, {path(3, 9), 0, path(5), path(5, 3, 9)},
            {path(3, 9), path(3), path(5, 5), path(5, 5, 9)}, {path(3, 3, 9), path(3), path(5), path(5, 3, 9)},
            {path(3, 3, 9), path(3, 3), path(5, 5), path(5, 5, 9)},
            {path(3, 3, 9), path(3, 3, 9), path(5, 5, 5), path(5, 5, 5)},
            {path(3), path(3), path(5, 5, 5), path(5, 5, 5)}, {0, 0, path(5, 5, 5), path(5, 5, 5)},
            {path(3, 3, 9), 0, 0, path(3, 3, 9)}, {path(9), 0, path(9, 9), path(9, 9, 9)}};
        for (int[] row : valueAndSourceAndTargetAndCopy) {
            Store x = new Store();
            x.set(row[0], 5, 1);
            x.merge(row[2], row[1], 1);
            x.value(row[3], 5);
        }
    }

    private static void emptyIsNotDeep() {
        for (int p : Paths.EDGES) {
            new Store().merge(p, 0, 0);
            // The deep value is beside q, not under it.
            Store beside = Store.of(path(3, 3, 3));
            beside.merge(p, path(4), 0);
            beside.holdsOnly(path(3, 3, 3), path(3, 3, 3));
        }
        Store x = Store.of(path(3), path(3, 3, 3));
        x.merge(path(5, 5, 5), path(3), TOO_DEEP);
        x.kill(path(3, 3), 1);
        x.merge(path(5, 5, 5), path(3), 1);
        x.holdsOnly(path(3), path(3), path(5, 5, 5), path(3));
    }

    private static void tooDeepIsBeforeFull() {
        Store x = Store.full();
        x.merge(path(7), 0, TOO_DEEP);
        x.merge(path(7, 7), path(4), TOO_DEEP);
        x.merge(path(7, 7, 7), path(4, 4), TOO_DEEP);
        x.merge(path(7, 7, 7), 0, TOO_DEEP);
    }

    /** The edge paths without one of them, each with its own number for a value: 39 values. */
    private static Store edgesWithout(int missing) {
        return Store.of(Paths.EDGES.stream().filter(p -> p != missing).mapToInt(p -> p).toArray());
    }

    private static boolean isUnder9(int path) {
        return path >= path(9);
    }

    private static void fortyOneAfter() {
        Store full = Store.full();
        full.merge(path(7), 1330, FULL);
        full.merge(path(7), path(4), FULL);
        full.merge(path(4, 7), path(4, 4), FULL);
        // 40 have values, 12 of the 13 would be replaced, and the one that is new is at each place once.
        for (int missing : Paths.EDGES) {
            if (isUnder9(missing)) {
                Store x = edgesWithout(missing);
                x.set(path(7), 7, 1);
                x.merge(path(9), path(0), FULL);
            }
        }
        Store room = Store.full();
        room.kill(path(9, 9), 4);
        room.set(path(8), 1, 1);
        room.merge(path(7, 7), path(0, 0), FULL);
        room.merge(path(9, 9), path(0, 0), FULL);
    }

    private static void fortyAfter() {
        for (int missing : Paths.EDGES) {
            if (isUnder9(missing)) {
                Store x = edgesWithout(missing);
                x.merge(path(9), path(0), 13);
                x.size(40);
                x.value(missing, missing - path(9) + path(0));
            }
        }
        Store four = Store.full();
        four.kill(path(9, 9), 4);
        four.merge(path(7, 7), path(0, 0), 4);
        four.size(40);
        four.value(path(7, 7), 3);
        four.value(path(7, 7, 9), 6);
        Store one = Store.full();
        one.kill(1330, 1);
        one.merge(path(7), path(0, 0, 0), 1);
        one.size(40);
    }

    private static void replacedNeedNoRoom() {
        Store x = Store.full();
        x.merge(path(9), path(0), 13);
        x.size(40);
        x.value(path(9), 2);
        x.value(1330, 14);
        x.merge(0, 1330, 1);
        x.value(0, 14);
        x.merge(path(4, 4), path(0, 0), 4);
        x.size(40);
        // The copy from below: (0), (4) and (9) and what is under them are there to be replaced.
        Store up = Store.full();
        up.merge(0, path(4), 13);
        up.size(40);
        up.value(0, 15);
        up.value(path(9, 9), 27);
    }

    private static void badChangesNothing() {
        for (int wrong : Paths.WRONG) {
            Store target = Store.of(0, 121, 132, 133, 1330);
            target.merge(wrong, 1330, BAD);
            target.merge(1330, wrong, BAD);
            target.merge(0, wrong, BAD);
            target.holdsOnly(0, 0, 121, 121, 132, 132, 133, 133, 1330, 1330);
        }
    }

    private static void tooDeepChangesNothing() {
        Store x = Store.full();
        x.merge(path(4), 0, TOO_DEEP);
        x.merge(path(4, 4), path(0), TOO_DEEP);
        x.merge(path(4, 4, 4), path(0, 0), TOO_DEEP);
        x.holdsWhatFullHolds();
        // With room enough, and with values that would not be too deep before the one that is.
        Store y = Store.of(0, 121, 132, 133);
        y.merge(path(5), 0, TOO_DEEP);
        y.merge(path(0), 0, TOO_DEEP);
        y.holdsOnly(0, 0, 121, 121, 132, 132, 133, 133);
    }

    private static void fullChangesNothing() {
        Store x = Store.full();
        x.merge(path(7), path(4), FULL);
        x.merge(path(4, 7), path(4, 4), FULL);
        x.merge(path(7), 1330, FULL);
        x.holdsWhatFullHolds();
        // 12 of the 13 would be replaced, and there is no room for the one that is new.
        for (int missing : Paths.EDGES) {
            if (isUnder9(missing)) {
                Store y = edgesWithout(missing);
                y.set(path(7), 7, 1);
                y.merge(path(9), path(0), FULL);
                y.size(40);
                for (int p : Paths.EDGES) {
                    y.value(p, p == missing ? 0 : p);
                }
                y.value(path(7), 7);
            }
        }
    }

    private static void copiesNone() {
        for (int p : Paths.EDGES) {
            Store x = Store.full();
            x.merge(p, path(7), 0);
            x.merge(p, path(4, 7), 0);
            x.merge(p, path(4, 4, 7), 0);
            x.holdsWhatFullHolds();
        }
    }

    private static void copiesAll() {
        Store x = Store.full();
        x.merge(0, 0, 40);
        x.holdsWhatFullHolds();
        Store twenty = new Store();
        for (int i = 0; i < 20; i++) {
            twenty.set(path(4, i / 10, i % 10), i, 1);
        }
        twenty.merge(path(9), path(4), 20);
        twenty.size(40);
        twenty.merge(path(9), path(4), 20);
        twenty.merge(path(4), path(9), 20);
        twenty.size(40);
    }

    private static void countsReplaced() {
        Store x = Store.of(path(1), path(1, 1), path(2), path(2, 1), path(2, 2));
        x.merge(path(2), path(1), 2);
        x.merge(path(2), path(1), 2);
        x.merge(path(1), path(2), 3);
        x.merge(0, path(1, 1), 1);
        x.merge(0, path(1, 1), 1);
        x.size(7);
    }
}
