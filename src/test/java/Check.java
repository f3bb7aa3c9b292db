/** What the tests share: wrong answers are printed and counted, and the exit code tells of them. */
final class Check {
    private static final int MOST_PRINTED = 40;

    private int wrong = 0;
    private int made = 0;

    void due(String call, long got, long want) {
        made++;
        if (got != want) {
            tell(call + " answered " + got + ", due is " + want);
        }
    }

    void holds(String what, boolean it) {
        made++;
        if (!it) {
            tell(what + " does not hold");
        }
    }

    private void tell(String text) {
        wrong++;
        if (wrong <= MOST_PRINTED) {
            System.out.println(text);
        }
    }

    void end() {
        System.out.println(made + " checks, " + wrong + " wrong");
        if (wrong != 0 || made == 0) {
            System.exit(1);
        }
    }
}
