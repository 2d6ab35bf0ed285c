/** Compares answers with those that are due, and counts the wrong ones. */
final class Checks {
    private static final int MOST_PRINTED = 40;
    private int made = 0;
    private int wrong = 0;
    private int sentences = 0;
    private int madeBefore = 0;
    private String sentence = "";

    /** What is compared from here on tests one sentence of the document. */
    void sentence(String where, String words) {
        endSentence();
        sentences++;
        sentence = where + ", \"" + words + "\": ";
    }

    void due(String call, long got, long want) {
        made++;
        if (got != want) {
            wrong("answered " + got + ", due is " + want, call);
        }
    }

    /** Ends the program with exit code 1 if an answer was wrong, or if nothing was compared. */
    void end() {
        endSentence();
        String tested = sentences == 0 ? "" : sentences + " sentences, ";
        System.out.println(tested + made + " answers compared, " + wrong + " wrong");
        if (wrong != 0 || made == 0) {
            System.exit(1);
        }
    }

    private void endSentence() {
        if (sentences > 0 && made == madeBefore) {
            wrong("compared nothing", "the test");
        }
        madeBefore = made;
    }

    private void wrong(String what, String call) {
        wrong++;
        if (wrong <= MOST_PRINTED) {
            System.out.println(sentence + call + " " + what);
        }
    }
}
