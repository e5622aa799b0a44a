/** Compares answers with those that are due, and ends the program with 1 if one was not. */
final class Check {
    interface Call {
        long answer();
    }

    private int wrong;
    private int done;
    private String words = "";

    /** The words of the document that the checks after it hold to; each that fails is told with them. */
    void sentence(String spoken) {
        words = spoken + " -- ";
    }

    void due(String call, long got, long want) {
        done++;
        if (got != want) {
            fail(call + " answered " + got + ", due is " + want);
        }
    }

    void dueText(String what, String got, String want) {
        done++;
        if (!got.equals(want)) {
            fail(what + " is " + got + ", due is " + want);
        }
    }

    void dueThrow(String call, Call made, Class<? extends RuntimeException> want) {
        dueText(call, outcome(made), "throws." + want.getSimpleName());
    }

    /** The answer, or the exact class of what was thrown, as one text. */
    static String outcome(Call made) {
        try {
            return Long.toString(made.answer());
        } catch (RuntimeException e) {
            return "throws." + e.getClass().getSimpleName();
        }
    }

    boolean sound() {
        return wrong == 0;
    }

    void fail(String text) {
        wrong++;
        System.out.println(words + text);
    }

    void end() {
        System.out.println(wrong == 0 ? done + " answers are as due" : wrong + " answers are not as due");
        if (wrong != 0) {
            System.exit(1);
        }
    }
}
