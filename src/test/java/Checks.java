/** Counts the answers that are not as due, and ends a test by them. */
final class Checks {
    private static final int MOST_SHOWN = 50;

    private int checked = 0;
    private int wrong = 0;

    void due(String what, long got, long want) {
        checked++;
        if (got != want) {
            wrong++;
            show(what + " answered " + got + ", due is " + want);
        }
    }

    void holds(String what, boolean holds) {
        checked++;
        if (!holds) {
            wrong++;
            show("does not hold: " + what);
        }
    }

    private void show(String line) {
        if (wrong <= MOST_SHOWN) {
            System.out.println(line);
        }
    }

    void end(String test) {
        System.out.println(test + ": " + checked + " checks, " + wrong + " wrong");
        if (wrong != 0 || checked == 0) {
            System.exit(1);
        }
    }
}
