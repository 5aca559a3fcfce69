/** Counts the answers that are not due, prints them, and ends the test with exit code 1 if there were any. */
final class Checks {
    /** Of one sentence, or of a test without sentences. */
    private static final int MOST_PRINTED = 50;

    private final String test;
    private String place = "";
    private int looked;
    private int wrong;
    private int printed;

    Checks(String test) {
        this.test = test;
    }

    /**
     * The test of one sentence: what it prints names the promise, or the paragraph of the terms,
     * and the sentence's words. A sentence that looks at nothing, or stops halfway, is wrong too.
     */
    void sentence(String paragraph, String words, Runnable body) {
        int before = looked;
        place = paragraph + " \"" + words + "\": ";
        printed = 0;
        try {
            body.run();
        } catch (RuntimeException e) {
            fail("stopped by " + e);
        }
        if (looked == before) {
            fail("no answer was looked at");
        }
        place = "";
    }

    void due(String what, long got, long want) {
        looked++;
        if (got != want) {
            fail(what + " answered " + got + ", due is " + want);
        }
    }

    void due(String what, Object got, Object want) {
        looked++;
        if (!got.equals(want)) {
            fail(what + " answered " + got + ", due is " + want);
        }
    }

    void isTrue(String what, boolean got) {
        due(what, got ? 1 : 0, 1);
    }

    void illegal(String what, Runnable call) {
        due(what, outcome(call), "IllegalArgumentException");
    }

    void arithmetic(String what, Runnable call) {
        due(what, outcome(call), "ArithmeticException");
    }

    void fine(String what, Runnable call) {
        due(what, outcome(call), "nothing");
    }

    void fail(String text) {
        wrong++;
        printed++;
        if (printed <= MOST_PRINTED) {
            System.out.println(test + ": " + place + text);
        }
    }

    boolean isFull() {
        return wrong > MOST_PRINTED;
    }

    void end() {
        System.out.println(test + ": " + looked + " answers looked at, " + wrong + " wrong");
        if (wrong > 0 || looked == 0) {
            System.exit(1);
        }
    }

    private static String outcome(Runnable call) {
        try {
            call.run();
            return "nothing";
        } catch (RuntimeException e) {
            return e.getClass().getSimpleName();
        }
    }
}
