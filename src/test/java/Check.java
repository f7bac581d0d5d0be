/** Counts what is not as due; each test class ends with end(). */
final class Check {
    interface Call {
        Object answer();
    }

    private static final int MOST_LINES = 40;
    private static int checks = 0;
    private static int wrong = 0;

    private Check() {
    }

    static void due(String what, Object want, Object got) {
        checks++;
        if (!want.equals(got)) {
            wrong++;
            if (wrong <= MOST_LINES) {
                System.out.println(what + ": answered " + got + ", due is " + want);
            }
        }
    }

    static void dueThrow(String what, Class<? extends RuntimeException> want, Call call) {
        due(what, "throws " + want.getSimpleName(), answerOf(call));
    }

    /** What a call answers, or the name of what it throws. */
    static Object answerOf(Call call) {
        try {
            return call.answer();
        } catch (RuntimeException e) {
            return "throws " + e.getClass().getSimpleName();
        }
    }

    static void end() {
        System.out.println(checks + " checks, " + wrong + " not as due");
        if (wrong != 0) {
            System.exit(1);
        }
    }
}
