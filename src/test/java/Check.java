/** Counts the answers that are not as due and tells them; a test ends with {@link #finish}. */
final class Check {
    /** A call that answers something. */
    interface Question {
        Object ask();
    }

    private static final String NOTHING_THROWN = "nothing thrown";

    private final String test;
    private int asked = 0;
    private int wrong = 0;

    Check(String test) {
        this.test = test;
    }

    void due(String call, long got, long want) {
        asked++;
        if (got != want) {
            wrong++;
            System.out.println(test + ": " + call + " answered " + got + ", due is " + want);
        }
    }

    void due(String call, boolean got, boolean want) {
        due(call, got ? 1 : 0, want ? 1 : 0);
    }

    void due(String call, String got, String want) {
        asked++;
        if (!got.equals(want)) {
            wrong++;
            System.out.println(test + ": " + call + " answered " + got + ", due is " + want);
        }
    }

    /** Asks that the call throws just this exception, no class below it. */
    void dueThrow(String call, Class<? extends RuntimeException> want, Runnable run) {
        due(call, thrownBy(run), want.getName());
    }

    void dueNoThrow(String call, Runnable run) {
        due(call, thrownBy(run), NOTHING_THROWN);
    }

    static String thrownBy(Runnable run) {
        try {
            run.run();
            return NOTHING_THROWN;
        } catch (RuntimeException e) {
            return e.getClass().getName();
        }
    }

    /** What a call answers, or the name of the exception that it throws. */
    static String answer(Question question) {
        Object[] answered = new Object[1];
        String thrown = thrownBy(() -> answered[0] = question.ask());
        return answered[0] == null ? thrown : answered[0].toString();
    }

    void finish() {
        System.out.println(test + ": " + asked + " answers, " + wrong + " not as due");
        if (wrong != 0 || asked == 0) {
            System.exit(1);
        }
    }
}
