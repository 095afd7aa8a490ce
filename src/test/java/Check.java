import java.util.function.IntSupplier;

/** Counts the answers that are not as due, and prints them. */
final class Check {
    private int asked;
    private int wrong;

    /** An answer as the issues write it: a number, or throws. and the name of an exception. */
    static String answer(IntSupplier call) {
        try {
            return Integer.toString(call.getAsInt());
        } catch (RuntimeException e) {
            return "throws." + e.getClass().getSimpleName();
        }
    }

    void due(String what, Object want, IntSupplier call) {
        same(what, want.toString(), answer(call));
    }

    void same(String what, Object want, Object got) {
        asked++;
        if (!want.equals(got)) {
            wrong++;
            System.out.println(what + " answered " + got + ", due is " + want);
        }
    }

    boolean isAllRight() {
        return wrong == 0;
    }

    void finish() {
        System.out.println(asked + " answers, " + wrong + " not as due");
        if (wrong != 0 || asked == 0) {
            System.exit(1);
        }
    }
}
