/** Counts the answers that are not the ones that are due and prints the first of them. */
final class Check {
    private static final int PRINTED_OF_EACH = 20;

    private static int looks = 0;
    private static int wrong = 0;
    private static int printed = 0;

    private Check() {
    }

    static void due(String what, Object got, Object want) {
        looks++;
        if (!got.equals(want)) {
            fault(what + ": got " + got + ", due is " + want);
        }
    }

    /** The test of one sentence of the document. It counts as failed if it ends early or looks at nothing. */
    static void sentence(String words, Runnable test) {
        int looksBefore = looks;
        int wrongBefore = wrong;
        printed = 0;
        try {
            test.run();
        } catch (RuntimeException thrown) {
            fault("thrown: " + thrown);
        }
        if (looks == looksBefore) {
            fault("nothing was looked at");
        }
        System.out.println((wrong == wrongBefore ? "holds: " : "BROKEN: ") + words);
    }

    // A fault at the root of everything would print millions of lines.
    private static void fault(String line) {
        wrong++;
        printed++;
        if (printed <= PRINTED_OF_EACH) {
            System.out.println(line);
        }
    }

    static void end() {
        System.out.println(wrong == 0 ? "all answers are as due" : wrong + " answers are not as due");
        if (wrong != 0) {
            System.exit(1);
        }
    }
}
