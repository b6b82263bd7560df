/** Compares answers with those that are due, and ends a test with exit code 1 if one was not. */
final class Due {
    private static final int MOST_PRINTED = 40;
    private final String test;
    private String under = "";
    private int asked;
    private int wrong;

    Due(String test) {
        this.test = test;
    }

    /** What the answers that follow belong to. */
    void under(String name) {
        under = name + ": ";
    }

    void is(String what, long got, long want) {
        asked++;
        if (got != want) {
            wrong++;
            if (wrong <= MOST_PRINTED) {
                System.out.println(test + ": " + under + what + " answered " + got + ", due is " + want);
            }
        }
    }

    int asked() {
        return asked;
    }

    boolean anyWrong() {
        return wrong > 0;
    }

    void end() {
        System.out.println(test + ": " + asked + " answers, " + wrong + " not as due");
        if (wrong > 0 || asked == 0) {
            System.exit(1);
        }
    }
}
