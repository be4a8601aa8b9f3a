/** Holds the answers of calls against the ones that are due, and tells the calls that went wrong. */
final class Due {
    static final Class<? extends Exception> ARGUMENT = IllegalArgumentException.class;
    static final Class<? extends Exception> STATE = IllegalStateException.class;
    static final Class<? extends Exception> INDEX = IndexOutOfBoundsException.class;
    static final Class<? extends Exception> UNSUPPORTED = UnsupportedOperationException.class;

    interface Call {
        long answer();
    }

    interface Test {
        boolean answer();
    }

    interface Act {
        void run();
    }

    private int asked;
    private int wrong;

    void number(String call, long want, Call made) {
        outcome(call, Long.toString(want), () -> Long.toString(made.answer()));
    }

    void truth(String call, boolean want, Test made) {
        outcome(call, Boolean.toString(want), () -> Boolean.toString(made.answer()));
    }

    void done(String call, Act made) {
        outcome(call, "done", () -> {
            made.run();
            return "done";
        });
    }

    void refused(String call, Class<? extends Exception> want, Act made) {
        outcome(call, want.getName(), () -> {
            made.run();
            return "done";
        });
    }

    /** Ends the test: with exit code 1 if an answer was not the one that is due. */
    void end() {
        System.out.println(asked + " answers, " + wrong + " not as due");
        if (wrong != 0 || asked == 0) {
            System.exit(1);
        }
    }

    private interface Told {
        String text();
    }

    private void outcome(String call, String want, Told made) {
        String got;
        try {
            got = made.text();
        } catch (RuntimeException e) {
            got = e.getClass().getName();
        }
        asked++;
        if (!got.equals(want)) {
            wrong++;
            System.out.println(call + " answered " + got + ", due is " + want);
        }
    }
}
