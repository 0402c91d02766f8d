import java.util.List;

/** The boundary cases of the document's terms, sentence by sentence. */
public final class TermsBoundaryTest {
    private static final int BAD = -1;
    private static final int FULL = -2;
    private static final int NONE = -3;

    public static void main(String[] args) {
        Checks.sentence("Terms: 0 to 3 subscripts, each from 0 to 9", TermsBoundaryTest::everyPathIsTaken);
        Checks.sentence("Terms: a path number iff it is written so", TermsBoundaryTest::noOtherNumberIsTaken);
        Checks.sentence("Terms: the empty path is 0, and 3, 7 is 121 * 4 + 11 * 8", TermsBoundaryTest::theExamples);
        Checks.sentence("Terms: the length is the number of subscripts", TermsBoundaryTest::onlyLength3EndsThePath);
        Checks.sentence("Terms: under: a beginning of it or equal", TermsBoundaryTest::underIsBeginningOrEqual);
        Checks.sentence("Terms: a path comes directly before all under it", TermsBoundaryTest::directlyBefore);
        Checks.sentence("Terms: a value is any int", TermsBoundaryTest::valueIsAnyInt);
        Checks.sentence("Terms: at most 40 paths have values", TermsBoundaryTest::atMostForty);
        Checks.sentence("What it is: at most 512 calls", TermsBoundaryTest::theLastPromisedCall);
        Checks.end();
    }

    private static void everyPathIsTaken() {
        Checks.due("the number of paths", Paths.ALL.size(), 1 + 10 + 100 + 1000);
        for (int p : Paths.ALL) {
            Store x = new Store();
            x.data(p, 0);
            x.count(p, 0);
            x.set(p, 5, 1);
            x.holdsOnly(p, 5);
            x.data(p, 1);
            x.count(p, 1);
            x.merge(p, p, 1);
            x.kill(p, 1);
            x.holdsOnly();
        }
    }

    private static void noOtherNumberIsTaken() {
        for (int p : Paths.WRONG) {
            Store x = new Store();
            x.set(p, 5, BAD);
            x.value(p, 0);
            x.data(p, BAD);
            x.count(p, BAD);
            x.kill(p, BAD);
            x.order(p, -1, BAD);
            x.orderBack(p, 10, BAD);
            x.merge(p, 0, BAD);
            x.merge(0, p, BAD);
            x.holdsOnly();
        }
    }

    private static void theExamples() {
        Store x = Store.of(0, 121 * 4 + 11 * 8);
        x.order(0, -1, 3);
        x.order(121 * 4, -1, 7);
        x.order(121 * 4 + 11 * 8, -1, NONE);
        x.data(0, 11);
    }

    private static void onlyLength3EndsThePath() {
        for (int p : Paths.ALL) {
            boolean longest = p % 11 != 0;
            Store x = new Store();
            x.order(p, -1, longest ? BAD : NONE);
            x.orderBack(p, 10, longest ? BAD : NONE);
        }
    }

    private static void underIsBeginningOrEqual() {
        // Each path is written with one character for each subscript, so that a beginning is a prefix.
        for (int q : Paths.EDGES) {
            Store x = Store.of(q);
            for (int p : Paths.EDGES) {
                x.count(p, letters(q).startsWith(letters(p)) ? 1 : 0);
            }
        }
    }

    private static String letters(int path) {
        StringBuilder made = new StringBuilder();
        for (int part : List.of(path / 121, path / 11 % 11, path % 11)) {
            if (part > 0) {
                made.append((char) ('a' + part));
            }
        }
        return made.toString();
    }

    private static void directlyBefore() {
        Store x = new Store();
        int[] inOrder = {0, 121, 132, 133, 142, 143, 231, 232, 241, 242, 1210, 1320, 1321, 1330};
        for (int i = inOrder.length - 1; i >= 0; i--) {
            x.set(inOrder[i], 1, 1);
        }
        int before = -1;
        for (int p : inOrder) {
            x.query(before, p);
            before = p;
        }
        x.query(before, NONE);
    }

    private static void valueIsAnyInt() {
        // The numbers that calls answer are values like others.
        for (int v : new int[] {Paths.MIN, Paths.MIN + 1, -5, -4, -3, -2, -1, 0, 1, 32768, 65536, Paths.MAX}) {
            Store x = new Store();
            x.set(132, v, 1);
            x.value(132, v);
            x.data(132, 1);
            x.set(132, v, 0);
            x.merge(1330, 132, 1);
            x.holdsOnly(132, v, 1330, v);
            x.kill(132, 1);
            x.holdsOnly(1330, v);
        }
    }

    private static void atMostForty() {
        Store x = new Store();
        int placed = 0;
        for (int p : Paths.ALL) {
            if (x.calls() < 400) {
                x.set(p, 1, placed < 40 ? 1 : FULL);
                placed++;
            }
        }
        x.size(40);
        x.count(0, 40);
    }

    private static void theLastPromisedCall() {
        Store x = Store.full();
        for (int call = x.calls() + 1; call <= 511; call++) {
            x.set(1330, call, 0);
        }
        x.value(1330, 511);
        Checks.due("calls made", x.calls(), 512);
    }
}
