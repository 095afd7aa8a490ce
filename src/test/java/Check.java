import java.util.function.IntSupplier;

/** Counts the answers that are not as due, and prints them with the sentence of the document that they are due by. */
final class Check {
    /** One fault may turn many answers wrong: the first ones tell enough. */
    private static final int MOST_TOLD = 40;

    private int asked;
    private int wrong;
    private String sentence = "";
    private int sentences;
    private int askedBefore;

    /** An answer as the issues write it: a number, or throws. and the name of an exception. */
    static String answer(IntSupplier call) {
        try {
            return Integer.toString(call.getAsInt());
        } catch (RuntimeException e) {
            return "throws." + e.getClass().getSimpleName();
        }
    }

    /** The words of the document that what follows is a test of. */
    void sentence(String words) {
        endSentence();
        sentence = words;
        sentences++;
        askedBefore = asked;
    }

    void due(String what, Object want, IntSupplier call) {
        same(what, want.toString(), answer(call));
    }

    void same(String what, Object want, Object got) {
        asked++;
        if (!want.equals(got)) {
            miss(what + " answered " + got + ", due is " + want);
        }
    }

    boolean isAllRight() {
        return wrong == 0;
    }

    void finish() {
        endSentence();
        System.out.println(asked + " answers" + (sentences == 0 ? "" : " by " + sentences + " sentences") + ", " + wrong + " not as due");
        if (wrong != 0 || asked == 0) {
            System.exit(1);
        }
    }

    /** A sentence without an answer has no test, whatever stands below it. */
    private void endSentence() {
        if (!sentence.isEmpty() && asked == askedBefore) {
            miss("no answer was asked for");
        }
    }

    private void miss(String what) {
        wrong++;
        if (wrong <= MOST_TOLD) {
            System.out.println(what + (sentence.isEmpty() ? "" : " (\"" + sentence + "\")"));
        }
    }
}
