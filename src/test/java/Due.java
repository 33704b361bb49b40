/** Collects the answers that are not as due; every test of the project ends with finish(). */
final class Due {
    /** One fault may make thousands of answers wrong; the first of them tell enough. */
    private static final int MOST_SHOWN = 10;

    private final String test;
    private String words = "";
    private int sentences = 0;
    private int asked = 0;
    private int wrong = 0;
    private int shown = 0;

    Due(String test) {
        this.test = test;
    }

    /**
     * A test of its own for one sentence of the document. It fails if an answer in it is not as
     * due, if it looks at no answer, or if a call throws, which no call ever may.
     */
    void sentence(String sentence, Runnable body) {
        sentences++;
        words = " [" + sentence + "]";
        shown = 0;
        int before = asked;
        try {
            body.run();
            due("answers looked at", asked > before ? 1 : 0, 1);
        } catch (RuntimeException | StackOverflowError thrown) {
            tell("a call threw " + thrown);
        }
        words = "";
        shown = 0;
    }

    void due(String call, long got, long want) {
        asked++;
        if (got != want) {
            tell(call + " answered " + got + ", due is " + want);
        }
    }

    private void tell(String fault) {
        wrong++;
        shown++;
        if (shown <= MOST_SHOWN) {
            System.out.println(test + words + ": " + fault);
        }
    }

    int wrong() {
        return wrong;
    }

    void finish() {
        String parts = sentences == 0 ? "" : sentences + " sentences, ";
        System.out.println(test + ": " + parts + asked + " answers looked at, " + wrong + " wrong");
        if (wrong != 0 || asked == 0) {
            System.exit(1);
        }
    }
}
