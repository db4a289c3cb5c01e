/** Counts answers that are not as due, and tells them. */
final class Due {
    private final String name;
    private String sentence = "";
    private int asked;
    private int wrong;

    Due(String name) {
        this.name = name;
    }

    /** What is asked from here on stands for this sentence of the document. */
    void about(String sentence) {
        this.sentence = sentence;
    }

    void is(String call, long got, long want) {
        asked++;
        if (got != want) {
            tell(call + " answered " + got + ", due is " + want);
        }
    }

    void is(String call, boolean got, boolean want) {
        is(call, got ? 1 : 0, want ? 1 : 0);
    }

    void isText(String call, String got, String want) {
        asked++;
        if (!got.equals(want)) {
            tell(call + " answered '" + got + "', due is '" + want + "'");
        }
    }

    private void tell(String what) {
        wrong++;
        if (wrong <= 40) {
            System.out.println(name + ": " + what + (sentence.isEmpty() ? "" : " (" + sentence + ")"));
        }
    }

    int wrong() {
        return wrong;
    }

    void close() {
        System.out.println(name + ": " + asked + " answers, " + wrong + " wrong");
        if (wrong > 0 || asked == 0) {
            System.exit(1);
        }
    }
}
