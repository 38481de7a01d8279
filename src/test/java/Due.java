/** Counts the answers that are not as due, and prints each of them. */
final class Due {
    private final String test;
    private int checked = 0;
    private int wrong = 0;

    Due(String test) {
        this.test = test;
    }

    void due(String call, long got, long want) {
        checked++;
        if (got != want) {
            wrong++;
            System.out.println(test + ": " + call + " answered " + got + ", due is " + want);
        }
    }

    void end() {
        System.out.println(test + ": " + checked + " answers, " + wrong + " not as due");
        if (wrong != 0 || checked == 0) {
            System.exit(1);
        }
    }
}
