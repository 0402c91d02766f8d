/** The promises of the document one by one: ordinary inputs, the edges it names, and wrong inputs. */
public final class PromisesTest {
    private static final int BAD = -1;
    private static final int FULL = -2;
    private static final int NONE = -3;
    private static final int TOO_DEEP = -4;
    private static final int MIN = Integer.MIN_VALUE;
    private static final int MAX = Integer.MAX_VALUE;

    // Below and above all paths; a later subscript without an earlier one (1, 11, 12, 120, 122, 131, 1211, 1220).
    private static final int[] NO_PATHS =
        {MIN, -1331, -121, -11, -1, 1, 5, 10, 11, 12, 110, 120, 122, 131, 243, 1211, 1220, 1331, 1332, 1452, MAX};

    public static void main(String[] args) {
        constants();
        promise1NewObject();
        promise2Set();
        promise3Kill();
        promise4Value();
        promise5Data();
        promise6Query();
        promise7Order();
        promise8OrderBack();
        promise9Count();
        promise10Merge();
        promise10MergeOverlaps();
        promise10MergeRefusals();
        promise11Size();
        promise12OrderAndLimits();
        Checks.end();
    }

    private static void due(String call, int got, int want) {
        Checks.due(call, got, want);
    }

    private static int path(int... subscripts) {
        int number = 0;
        int weight = 121;
        for (int s : subscripts) {
            number += weight * (s + 1);
            weight /= 11;
        }
        return number;
    }

    /** Paths (0, a, b) for a from 0 to 3: 40 values, numbered 1 to 40 in order. */
    private static MumpsGlobals full() {
        MumpsGlobals x = new MumpsGlobals();
        for (int i = 0; i < 40; i++) {
            due("set while filling", x.set(path(0, i / 10, i % 10), i + 1), 1);
        }
        return x;
    }

    private static void dueStillFull(String when, MumpsGlobals x) {
        due("size() " + when, x.size(), 40);
        for (int i = 0; i < 40; i++) {
            int p = path(0, i / 10, i % 10);
            due("value(" + p + ") " + when, x.value(p), i + 1);
        }
    }

    private static void constants() {
        due("BAD", MumpsGlobals.BAD, BAD);
        due("FULL", MumpsGlobals.FULL, FULL);
        due("NONE", MumpsGlobals.NONE, NONE);
        due("TOO_DEEP", MumpsGlobals.TOO_DEEP, TOO_DEEP);
    }

    private static void promise1NewObject() {
        MumpsGlobals x = new MumpsGlobals();
        due("1: size()", x.size(), 0);
        due("1: query(MIN)", x.query(MIN), NONE);
        due("1: data(0)", x.data(0), 0);
        due("1: count(0)", x.count(0), 0);
        due("1: value(0)", x.value(0), 0);
        due("1: order(0, -1)", x.order(0, -1), NONE);
        due("1: orderBack(0, 10)", x.orderBack(0, 10), NONE);
        due("1: kill(0)", x.kill(0), 0);
        due("1: merge(121, 0)", x.merge(121, 0), 0);
        MumpsGlobals y = new MumpsGlobals();
        y.set(0, 7);
        due("1: size() of another object", x.size(), 0);
        due("1: value(0) of another object", x.value(0), 0);
    }

    private static void promise2Set() {
        MumpsGlobals x = new MumpsGlobals();
        due("2: set(0, 3)", x.set(0, 3), 1);
        due("2: set(0, 4)", x.set(0, 4), 0);
        due("2: value(0)", x.value(0), 4);
        due("2: set(1330, MIN)", x.set(1330, MIN), 1);
        due("2: value(1330)", x.value(1330), MIN);
        due("2: set(1320, MAX)", x.set(1320, MAX), 1);
        due("2: value(1320)", x.value(1320), MAX);
        due("2: set(572, 0)", x.set(path(3, 7), 0), 1);
        due("2: set(572, 0) again", x.set(121 * 4 + 11 * 8, 0), 0);
        due("2: kill(572)", x.kill(572), 1);
        due("2: set(572, 1) after kill", x.set(572, 1), 1);
        for (int p : NO_PATHS) {
            due("2: set(" + p + ", 1)", x.set(p, 1), BAD);
        }
        due("2: size()", x.size(), 4);

        MumpsGlobals f = full();
        due("2: set of a 41st", f.set(0, 1), FULL);
        due("2: set of a 41st", f.set(1330, 1), FULL);
        for (int p : NO_PATHS) {
            due("2: set(" + p + ", 1) when full", f.set(p, 1), BAD);
        }
        dueStillFull("after refused sets", f);
        due("2: set of one there when full", f.set(133, 99), 0);
        due("2: value(133)", f.value(133), 99);
        due("2: kill(134)", f.kill(134), 1);
        due("2: set when one is free again", f.set(0, 1), 1);
        due("2: set when full again", f.set(134, 1), FULL);
    }

    private static void promise3Kill() {
        MumpsGlobals x = new MumpsGlobals();
        int[] paths = {0, 121, 132, 133, 142, 143, 231, 241, 242, 253, 1210, 1330};
        for (int p : paths) {
            x.set(p, p + 1);
        }
        for (int p : NO_PATHS) {
            due("3: kill(" + p + ")", x.kill(p), BAD);
        }
        due("3: size() after refused kills", x.size(), 12);
        due("3: kill(132)", x.kill(132), 3);
        due("3: kill(132) again", x.kill(132), 0);
        due("3: value(132)", x.value(132), 0);
        due("3: value(133)", x.value(133), 0);
        due("3: value(142)", x.value(142), 0);
        due("3: value(121)", x.value(121), 122);
        due("3: value(143)", x.value(143), 144);
        due("3: kill(121)", x.kill(121), 4);
        due("3: value(241)", x.value(241), 0);
        due("3: value(242)", x.value(242), 243);
        due("3: value(0)", x.value(0), 1);
        due("3: kill(1330)", x.kill(1330), 1);
        due("3: value(1210)", x.value(1210), 1211);
        due("3: kill(0)", x.kill(0), 4);
        due("3: size()", x.size(), 0);
        due("3: kill(0) of a full one", full().kill(0), 40);
    }

    private static void promise4Value() {
        MumpsGlobals x = new MumpsGlobals();
        x.set(132, -5);
        due("4: value(132)", x.value(132), -5);
        due("4: value(121)", x.value(121), 0);
        due("4: value(133)", x.value(133), 0);
        due("4: value(0)", x.value(0), 0);
        for (int p : NO_PATHS) {
            due("4: value(" + p + ")", x.value(p), 0);
        }
        x.kill(132);
        due("4: value(132) after kill", x.value(132), 0);
    }

    private static void promise5Data() {
        MumpsGlobals x = new MumpsGlobals();
        x.set(133, 0);
        due("5: data(133)", x.data(133), 1);
        due("5: data(132)", x.data(132), 10);
        due("5: data(121)", x.data(121), 10);
        due("5: data(0)", x.data(0), 10);
        due("5: data(134)", x.data(134), 0);
        due("5: data(143)", x.data(143), 0);
        due("5: data(242)", x.data(242), 0);
        x.set(121, 0);
        due("5: data(121) with its own", x.data(121), 11);
        due("5: data(132) with one above", x.data(132), 10);
        x.set(0, 0);
        due("5: data(0) with its own", x.data(0), 11);
        x.kill(121);
        due("5: data(0) alone", x.data(0), 1);
        x.set(1330, 0);
        due("5: data(1320)", x.data(1320), 10);
        due("5: data(1210)", x.data(1210), 10);
        x.set(253, 0);
        due("5: data(242) before the next", x.data(242), 10);
        due("5: data(121) before the next", x.data(121), 0);
        for (int p : NO_PATHS) {
            due("5: data(" + p + ")", x.data(p), BAD);
        }
    }

    private static void promise6Query() {
        MumpsGlobals x = new MumpsGlobals();
        x.set(1330, 0);
        x.set(0, 0);
        x.set(132, 0);
        due("6: query(MIN)", x.query(MIN), 0);
        due("6: query(-1)", x.query(-1), 0);
        due("6: query(0)", x.query(0), 132);
        due("6: query(5), no path number", x.query(5), 132);
        due("6: query(131), no path number", x.query(131), 132);
        due("6: query(132)", x.query(132), 1330);
        due("6: query(1329)", x.query(1329), 1330);
        due("6: query(1330)", x.query(1330), NONE);
        due("6: query(1331)", x.query(1331), NONE);
        due("6: query(MAX)", x.query(MAX), NONE);
        x.kill(132);
        due("6: query(0) after kill", x.query(0), 1330);
    }

    private static void promise7Order() {
        MumpsGlobals x = new MumpsGlobals();
        x.set(path(2), 0);
        x.set(path(5, 0, 9), 0);
        x.set(path(5, 3), 0);
        x.set(path(9, 9, 9), 0);
        due("7: order(0, MIN)", x.order(0, MIN), 2);
        due("7: order(0, -1)", x.order(0, -1), 2);
        due("7: order(0, 1)", x.order(0, 1), 2);
        due("7: order(0, 2)", x.order(0, 2), 5);
        due("7: order(0, 5)", x.order(0, 5), 9);
        due("7: order(0, 9)", x.order(0, 9), NONE);
        due("7: order(0, 10)", x.order(0, 10), NONE);
        due("7: order(0, MAX)", x.order(0, MAX), NONE);
        due("7: order((5), -1)", x.order(path(5), -1), 0);
        due("7: order((5), 0)", x.order(path(5), 0), 3);
        due("7: order((5), 3)", x.order(path(5), 3), NONE);
        due("7: order((5, 0), -1)", x.order(path(5, 0), -1), 9);
        due("7: order((5, 0), 9)", x.order(path(5, 0), 9), NONE);
        due("7: order((2), -1)", x.order(path(2), -1), NONE);
        due("7: order((9, 9), 8)", x.order(path(9, 9), 8), 9);
        due("7: order((5, 0, 9), -1)", x.order(path(5, 0, 9), -1), BAD);
        due("7: order((0, 0, 0), MAX)", x.order(path(0, 0, 0), MAX), BAD);
        for (int p : NO_PATHS) {
            due("7: order(" + p + ", -1)", x.order(p, -1), BAD);
        }
    }

    private static void promise8OrderBack() {
        MumpsGlobals x = new MumpsGlobals();
        x.set(path(0, 0, 0), 0);
        x.set(path(5, 0, 9), 0);
        x.set(path(5, 3), 0);
        x.set(path(9), 0);
        due("8: orderBack(0, MAX)", x.orderBack(0, MAX), 9);
        due("8: orderBack(0, 10)", x.orderBack(0, 10), 9);
        due("8: orderBack(0, 9)", x.orderBack(0, 9), 5);
        due("8: orderBack(0, 5)", x.orderBack(0, 5), 0);
        due("8: orderBack(0, 1)", x.orderBack(0, 1), 0);
        due("8: orderBack(0, 0)", x.orderBack(0, 0), NONE);
        due("8: orderBack(0, -1)", x.orderBack(0, -1), NONE);
        due("8: orderBack(0, MIN)", x.orderBack(0, MIN), NONE);
        due("8: orderBack((5), 10)", x.orderBack(path(5), 10), 3);
        due("8: orderBack((5), 3)", x.orderBack(path(5), 3), 0);
        due("8: orderBack((5), 0)", x.orderBack(path(5), 0), NONE);
        due("8: orderBack((5, 0), 10)", x.orderBack(path(5, 0), 10), 9);
        due("8: orderBack((5, 0), 9)", x.orderBack(path(5, 0), 9), NONE);
        due("8: orderBack((9), 10)", x.orderBack(path(9), 10), NONE);
        due("8: orderBack((5, 0, 9), 10)", x.orderBack(path(5, 0, 9), 10), BAD);
        due("8: orderBack((0, 0, 0), MIN)", x.orderBack(path(0, 0, 0), MIN), BAD);
        for (int p : NO_PATHS) {
            due("8: orderBack(" + p + ", 10)", x.orderBack(p, 10), BAD);
        }
    }

    private static void promise9Count() {
        MumpsGlobals x = new MumpsGlobals();
        int[] paths = {0, 121, 132, 133, 142, 143, 242, 1330};
        for (int p : paths) {
            x.set(p, 0);
        }
        due("9: count(0)", x.count(0), 8);
        due("9: count(121)", x.count(121), 5);
        due("9: count(132)", x.count(132), 3);
        due("9: count(133)", x.count(133), 1);
        due("9: count(134)", x.count(134), 0);
        due("9: count(143)", x.count(143), 1);
        due("9: count(242)", x.count(242), 1);
        due("9: count(363)", x.count(363), 0);
        due("9: count(1210)", x.count(1210), 1);
        x.set(133, 1);
        due("9: count(132) after a second set", x.count(132), 3);
        for (int p : NO_PATHS) {
            due("9: count(" + p + ")", x.count(p), BAD);
        }
    }

    private static void promise10Merge() {
        MumpsGlobals x = new MumpsGlobals();
        x.set(path(1), 10);
        x.set(path(1, 2), 12);
        x.set(path(1, 9, 9), 19);
        x.set(path(4), 40);
        x.set(path(4, 2, 2), 42);
        due("10: merge((4), (1))", x.merge(path(4), path(1)), 3);
        due("10: replaced", x.value(path(4)), 10);
        due("10: new", x.value(path(4, 2)), 12);
        due("10: new at the end", x.value(path(4, 9, 9)), 19);
        due("10: not replaced", x.value(path(4, 2, 2)), 42);
        due("10: the source stays", x.value(path(1, 9, 9)), 19);
        due("10: size()", x.size(), 7);
        due("10: merge with itself", x.merge(path(4), path(4)), 4);
        due("10: size() after it", x.size(), 7);
        due("10: nothing to copy", x.merge(path(4), path(7)), 0);
        due("10: size() after it", x.size(), 7);
        due("10: of length 3 to 0", x.merge(0, path(4, 2, 2)), 1);
        due("10: value(0)", x.value(0), 42);
        due("10: of length 3 to 3", x.merge(path(9, 9, 9), path(4, 9, 9)), 1);
        due("10: value(1330)", x.value(1330), 19);
        due("10: of length 0 to 3, too deep", x.merge(path(8, 8, 8), 0), TOO_DEEP);
    }

    private static void promise10MergeOverlaps() {
        MumpsGlobals up = new MumpsGlobals();
        up.set(path(0, 0), 1);
        up.set(path(0, 0, 0), 2);
        due("10: merge((0), (0, 0))", up.merge(path(0), path(0, 0)), 2);
        due("10: up, (0)", up.value(path(0)), 1);
        due("10: up, (0, 0)", up.value(path(0, 0)), 2);
        due("10: up, (0, 0, 0)", up.value(path(0, 0, 0)), 2);

        MumpsGlobals down = new MumpsGlobals();
        down.set(path(0), 1);
        down.set(path(0, 0), 2);
        due("10: merge((0, 0), (0))", down.merge(path(0, 0), path(0)), 2);
        due("10: down, (0)", down.value(path(0)), 1);
        due("10: down, (0, 0)", down.value(path(0, 0)), 1);
        due("10: down, (0, 0, 0)", down.value(path(0, 0, 0)), 2);
        due("10: down, size()", down.size(), 3);
        due("10: down again", down.merge(path(0, 0), path(0)), TOO_DEEP);

        MumpsGlobals root = new MumpsGlobals();
        root.set(0, 1);
        root.set(path(9), 2);
        root.set(path(9, 9), 3);
        due("10: merge((9), 0)", root.merge(path(9), 0), 3);
        due("10: root, (9)", root.value(path(9)), 1);
        due("10: root, (9, 9)", root.value(path(9, 9)), 2);
        due("10: root, (9, 9, 9)", root.value(path(9, 9, 9)), 3);
        due("10: root, 0", root.value(0), 1);
    }

    private static void promise10MergeRefusals() {
        MumpsGlobals f = full();
        for (int p : NO_PATHS) {
            due("10: merge(" + p + ", 0)", f.merge(p, 0), BAD);
            due("10: merge(1330, " + p + ")", f.merge(1330, p), BAD);
            due("10: merge(" + p + ", " + p + ")", f.merge(p, p), BAD);
        }
        due("10: too deep before full", f.merge(path(5), 0), TOO_DEEP);
        due("10: too deep before full", f.merge(path(5, 5, 5), path(0, 0)), TOO_DEEP);
        due("10: full", f.merge(path(5), path(0)), FULL);
        due("10: full by one", f.merge(path(5), path(0, 0, 0)), FULL);
        dueStillFull("after refused merges", f);
        due("10: all replaced when full", f.merge(path(0, 1), path(0, 0)), 10);
        due("10: value after it", f.value(path(0, 1, 9)), 10);
        due("10: nothing to copy when full", f.merge(path(5), path(6)), 0);
        due("10: with itself when full", f.merge(0, 0), 40);
        f.kill(path(0, 3, 9));
        due("10: 41 after it", f.merge(path(0, 4), path(0, 0)), FULL);
        due("10: one that is free", f.merge(path(0, 3), path(0, 0)), 10);
        due("10: size()", f.size(), 40);
        f.kill(path(0, 3));
        due("10: 40 after it", f.merge(path(7, 7), path(0, 0)), 10);
        due("10: size()", f.size(), 40);
        due("10: value((7, 7, 9))", f.value(path(7, 7, 9)), 10);
    }

    private static void promise11Size() {
        MumpsGlobals x = new MumpsGlobals();
        x.set(0, 0);
        due("11: size()", x.size(), 1);
        x.set(0, 1);
        due("11: size() after the same", x.size(), 1);
        x.set(1330, 0);
        due("11: size()", x.size(), 2);
        x.set(5, 0);
        due("11: size() after a refusal", x.size(), 2);
        x.kill(1330);
        due("11: size() after kill", x.size(), 1);
        due("11: size() of a full one", full().size(), 40);
    }

    private static void promise12OrderAndLimits() {
        MumpsGlobals x = new MumpsGlobals();
        for (int p : NO_PATHS) {
            due("12: order(" + p + ", 9) of an empty one", x.order(p, 9), BAD);
            due("12: orderBack(" + p + ", 0) of an empty one", x.orderBack(p, 0), BAD);
        }
        due("12: order(1330, 9)", x.order(1330, 9), BAD);
        due("12: orderBack(1330, 0)", x.orderBack(1330, 0), BAD);

        MumpsGlobals f = full();
        for (int p : NO_PATHS) {
            f.set(p, 77);
            f.kill(p);
            f.merge(p, 121);
            f.merge(121, p);
        }
        f.set(0, 77);
        f.set(121, 77);
        f.merge(242, 121);
        f.merge(132, 121);
        f.order(1330, 0);
        f.orderBack(1330, 0);
        dueStillFull("after refused calls", f);
    }
}
