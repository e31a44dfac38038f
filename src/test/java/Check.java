/** Compares answers with those that are due, and counts the wrong ones. */
final class Check {
    interface Call {
        long answer();
    }

    private int wrong;
    private String under = "";

    /** What the lines of the following reports begin with. */
    void under(String newUnder) {
        under = newUnder;
    }

    void due(String what, long want, Call call) {
        String got = answerOf(call);
        if (!got.equals(Long.toString(want))) {
            report(what + " answered " + got + ", due is " + want);
        }
    }

    void same(String what, Object want, Object got) {
        if (!want.equals(got)) {
            report(what + " is " + got + ", due is " + want);
        }
    }

    /** The class must be the very one: what the machine throws is a class below some of these. */
    void refused(String what, Class<? extends RuntimeException> want, Call call) {
        String got = answerOf(call);
        if (!got.equals(want.getName())) {
            report(what + " answered " + got + ", due is " + want.getName());
        }
    }

    void report(String line) {
        wrong++;
        System.out.println(under + line);
    }

    int wrong() {
        return wrong;
    }

    /** The answer, or the name of the exception that the call throws. */
    static String answerOf(Call call) {
        try {
            return Long.toString(call.answer());
        } catch (RuntimeException e) {
            return e.getClass().getName();
        }
    }

    void end() {
        System.out.println(wrong == 0 ? "all answers are as due" : wrong + " answers are not as due");
        if (wrong != 0) {
            System.exit(1);
        }
    }
}
