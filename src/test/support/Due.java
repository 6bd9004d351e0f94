import java.util.List;

/** Compares answers with those that are due, and ends the test with exit code 1 if one was wrong. */
final class Due {
    interface Call {
        void run();
    }

    /** What a call threw, if it was none of the exceptions that the document names. */
    static final String NOTHING = "nothing";
    static final String ARGUMENT = "IllegalArgumentException";
    static final String BOUNDS = "IndexOutOfBoundsException";

    private final String test;
    private int asked = 0;
    private int wrong = 0;

    Due(String test) {
        this.test = test;
    }

    void answer(String call, long got, long want) {
        judge(call + " answered ", String.valueOf(got), String.valueOf(want));
    }

    void told(String call, String got, String want) {
        judge(call + " told ", got, want);
    }

    void holds(String what, boolean holds) {
        judge(what + " is ", String.valueOf(holds), "true");
    }

    void thrown(String call, String want, Call body) {
        judge(call + " threw ", thrownBy(body), want);
    }

    /** Rows of answers, as Answers tells them. */
    void same(String what, List<Long> got, List<Long> want) {
        judge(what + " answers ", got.toString(), want.toString());
    }

    private void judge(String what, String got, String want) {
        asked++;
        if (!got.equals(want)) {
            wrong++;
            System.out.println(test + ": " + what + got + ", due is " + want);
        }
    }

    static String thrownBy(Call body) {
        try {
            body.run();
            return NOTHING;
        } catch (RuntimeException e) {
            return e.getClass().getSimpleName();
        }
    }

    void end() {
        System.out.println(test + ": " + asked + " answers, " + wrong + " wrong");
        if (wrong != 0 || asked == 0) {
            System.exit(1);
        }
    }
}
