/** Counts the answers that are not as due, and ends a test by them. */
final class Checks {
    private static final int MOST_SHOWN = 20;

    private String sentence = "";
    private int sentences = 0;
    private int checked = 0;
    private int wrong = 0;
    private int shown = 0;

    /** A sentence of the document, tested on its own: the next one is tested even if this one throws. */
    void sentence(String words, Runnable test) {
        int before = checked;
        sentence = words + ": ";
        shown = 0;
        sentences++;
        try {
            test.run();
        } catch (RuntimeException | StackOverflowError thrown) {
            holds("nothing is thrown, but " + thrown, false);
        }
        holds("something was checked", checked > before);
        sentence = "";
    }

    void due(String what, long got, long want) {
        checked++;
        if (got != want) {
            wrong++;
            show(what + " answered " + got + ", due is " + want);
        }
    }

    void holds(String what, boolean holds) {
        checked++;
        if (!holds) {
            wrong++;
            show("does not hold: " + what);
        }
    }

    private void show(String line) {
        shown++;
        if (shown <= MOST_SHOWN) {
            System.out.println(sentence + line);
        }
    }

    void end(String test) {
        String tested = sentences == 0 ? "" : sentences + " sentences, ";
        System.out.println(test + ": " + tested + checked + " checks, " + wrong + " wrong");
        if (wrong != 0 || checked == 0) {
            System.exit(1);
        }
    }
}
