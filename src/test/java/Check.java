/** Compares answers with those that are due, and ends a test program with the right exit code. */
final class Check {
    private static final int MOST_PRINTED = 40;

    private final String name;
    private int right = 0;
    private int wrong = 0;
    private String promise = "";

    Check(String name) {
        this.name = name;
    }

    /** All answers that follow belong to this promise. */
    void promise(String title) {
        promise = title;
    }

    void due(String call, long got, long want) {
        note(got == want, call + " answered " + got + ", due is " + want);
    }

    void due(String call, String got, String want) {
        note(got.equals(want), call + " answered \"" + got + "\", due is \"" + want + "\"");
    }

    void holds(String what, boolean isSo) {
        note(isSo, what + " does not hold");
    }

    int wrongAnswers() {
        return wrong;
    }

    private void note(boolean isRight, String complaint) {
        if (isRight) {
            right++;
            return;
        }
        wrong++;
        if (wrong <= MOST_PRINTED) {
            System.out.println(name + ", " + promise + ": " + complaint);
        }
    }

    void end() {
        System.out.println(name + ": " + right + " answers as due, " + wrong + " not");
        if (wrong > 0 || right == 0) {
            System.exit(1);
        }
    }
}
