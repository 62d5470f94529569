/** Counts and prints the answers that are not the due ones. */
final class Check {
    private int wrong = 0;
    private int asked = 0;
    private String place = "";

    /** Tells what the following answers are about. */
    void at(String newPlace) {
        place = newPlace + ": ";
    }

    void due(String what, int got, int want) {
        holds(what + " answered " + got + ", due is " + want, got == want);
    }

    /** The words are printed if it does not hold. */
    void holds(String what, boolean holds) {
        asked++;
        if (!holds) {
            wrong++;
            if (wrong <= 50) {
                System.out.println(place + what);
            }
        }
    }

    int wrong() {
        return wrong;
    }

    int asked() {
        return asked;
    }

    void end() {
        System.out.println(asked + " answers, " + wrong + " of them wrong");
        if (wrong != 0) {
            System.exit(1);
        }
    }
}
