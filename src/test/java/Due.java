import java.util.function.Consumer;

/** Holds answers against the ones that are due, sentence by sentence of the document. */
final class Due {
    private int tests;
    private int answers;
    private int wrong;
    private String sentence;

    /** A test of what one sentence of the document says, or a part of it; it is given a run on a new desk. */
    void says(String section, String quoted, Consumer<Run> test) {
        tests++;
        sentence = section + ", \"" + quoted + "\"";
        test.accept(new Run(this));
    }

    void answer(String call, String got, String want) {
        answers++;
        if (!got.equals(want)) {
            wrong++;
            System.out.println(sentence + ": " + call + " answered " + got + ", due is " + want);
        }
    }

    /** Ends the test: with exit code 1 if an answer was not the one that is due. */
    void end() {
        System.out.println(tests + " tests, " + answers + " answers, " + wrong + " not as due");
        if (wrong != 0 || answers == 0) {
            System.exit(1);
        }
    }
}
