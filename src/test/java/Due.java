/** Collects answers that are not the ones due; a test ends with exit code 1 if there was one. */
final class Due {
    private static final int MOST_SHOWN = 40;
    private final String title;
    private int answers = 0;
    private int wrong = 0;

    Due(String title) {
        this.title = title;
    }

    void same(String call, long got, long want) {
        answers++;
        if (got != want) {
            tell(call + " answered " + got + ", due is " + want);
        }
    }

    void holds(String what, boolean holds) {
        answers++;
        if (!holds) {
            tell("does not hold: " + what);
        }
    }

    boolean isSpotless() {
        return wrong == 0;
    }

    private void tell(String text) {
        wrong++;
        if (wrong <= MOST_SHOWN) {
            System.out.println(title + ": " + text);
        }
    }

    void end() {
        System.out.println(title + ": " + answers + " answers, " + wrong + " not as due");
        if (wrong != 0) {
            System.exit(1);
        }
    }
}
