/** Counts the answers that are not as due, and prints them, for each sentence the first ones. */
final class Due {
    /** A fault that breaks most answers is told by its first ones. */
    private static final int PRINTED = 20;

    private final String test;
    private String sentence = "";
    private int sentences = 0;
    private int checked = 0;
    private int checkedBefore = 0;
    private int wrong = 0;
    private int wrongBefore = 0;

    Due(String test) {
        this.test = test;
    }

    /** Begins the test of one sentence of the document: what comes until the next one is told with its words. */
    void sentence(String words) {
        endSentence();
        sentence = "\"" + words + "\": ";
        sentences++;
        checkedBefore = checked;
        wrongBefore = wrong;
    }

    private void endSentence() {
        if (sentences > 0 && checked == checkedBefore) {
            tell("nothing was asked");
        }
    }

    void due(String call, long got, long want) {
        checked++;
        if (got != want) {
            tell(call + " answered " + got + ", due is " + want);
        }
    }

    private void tell(String fault) {
        wrong++;
        if (wrong - wrongBefore <= PRINTED) {
            System.out.println(test + ": " + sentence + fault);
        } else if (wrong - wrongBefore == PRINTED + 1) {
            System.out.println(test + ": " + sentence + ".. and more");
        }
    }

    void end() {
        endSentence();
        String of = sentences > 0 ? " on " + sentences + " sentences" : "";
        System.out.println(test + ": " + checked + " answers" + of + ", " + wrong + " not as due");
        if (wrong != 0 || checked == 0) {
            System.exit(1);
        }
    }
}
