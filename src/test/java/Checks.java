/** Counts and prints the answers that are not the due ones. */
final class Checks {
    private static int made = 0;
    private static int wrong = 0;
    private static String sentence = "";

    private Checks() {
    }

    /** Runs the test of one sentence of the document, so that what is wrong is told under its words. */
    static void sentence(String words, Runnable test) {
        sentence = words + " | ";
        int before = made;
        try {
            test.run();
        } catch (RuntimeException e) {
            holds("no call throws: " + e, false);
        }
        boolean tested = made > before;
        holds("the sentence has a test", tested);
        sentence = "";
    }

    static void due(String call, long got, long want) {
        made++;
        if (got != want) {
            wrong++;
            System.out.println(sentence + call + " answered " + got + ", due is " + want);
        }
    }

    static void holds(String what, boolean isSo) {
        made++;
        if (!isSo) {
            wrong++;
            System.out.println(sentence + "not so: " + what);
        }
    }

    static void end() {
        System.out.println(made + " checks, " + wrong + " wrong");
        if (wrong != 0 || made == 0) {
            System.exit(1);
        }
    }
}
