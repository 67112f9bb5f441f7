import java.util.concurrent.Callable;

/** Counts the answers that are not due, tells each, and ends the test. */
final class Checks {
    private int wrong;
    private int made;
    private String sentence = "";

    /** The document's sentence that the checks behind this call hold the program to. */
    void says(String words) {
        sentence = "\"" + words + "\": ";
    }

    void due(String what, Object want, Callable<?> call) {
        made++;
        String got = answerOf(call);
        if (!got.equals(String.valueOf(want))) {
            wrong++;
            if (wrong <= 50) {
                System.out.println(sentence + what + " answered " + got + ", due is " + want);
            }
        }
    }

    /** The answer as a text, or throws. and the exception's name. */
    static String answerOf(Callable<?> call) {
        try {
            return String.valueOf(call.call());
        } catch (Exception e) {
            return "throws." + e.getClass().getSimpleName();
        }
    }

    void end() {
        System.out.println(made + " checks, " + wrong + " of them wrong");
        if (wrong != 0) {
            System.exit(1);
        }
    }
}
