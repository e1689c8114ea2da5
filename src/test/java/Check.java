/** Counts answers, and prints those that are not the ones that are due. */
final class Check {
    private final String title;
    private int asked = 0;
    private int wrong = 0;

    Check(String title) {
        this.title = title;
    }

    void due(String what, long got, long want) {
        asked++;
        if (got != want) {
            wrong++;
            System.out.println(title + ": " + what + " answered " + got + ", due is " + want);
        }
    }

    void holds(String what, boolean is) {
        asked++;
        if (!is) {
            wrong++;
            System.out.println(title + ": " + what + " does not hold");
        }
    }

    int wrong() {
        return wrong;
    }

    /** Ends the program with exit code 1, if an answer was wrong or nothing was asked. */
    void finish() {
        System.out.println(title + ": " + asked + " answers, " + wrong + " not as due");
        if (wrong != 0 || asked == 0) {
            System.exit(1);
        }
    }
}
