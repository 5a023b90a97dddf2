import java.util.function.IntSupplier;

/** Counts and prints the answers that are not the ones that are due. */
final class Check {
    private static int wrong = 0;

    private Check() {
    }

    static void due(String what, Object got, Object want) {
        if (!got.equals(want)) {
            wrong++;
            System.out.println(what + ": got " + got + ", due is " + want);
        }
    }

    /** The call answers this refusal and no vector is changed by it. */
    static void refused(String what, Subject x, IntSupplier call, int want) {
        String before = x.showAll();
        due(what, call.getAsInt(), want);
        due(what + ", the vectors after it", x.showAll(), before);
    }

    static void end() {
        System.out.println(wrong == 0 ? "all answers are as due" : wrong + " answers are not as due");
        if (wrong != 0) {
            System.exit(1);
        }
    }
}
