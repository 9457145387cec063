/** What the tests share: a call's answer as a text, and the count of those that are not as due. */
final class Check {
    interface Call {
        long answer();
    }

    interface Step {
        void run();
    }

    private static int asDue = 0;
    private static int wrong = 0;

    private Check() {
    }

    static String answerOf(Call call) {
        try {
            return Long.toString(call.answer());
        } catch (RuntimeException e) {
            return "throws." + e.getClass().getSimpleName();
        }
    }

    static void due(String what, Call call, long want) {
        compare(what, answerOf(call), Long.toString(want));
    }

    static void thrown(String what, Call call, Class<? extends RuntimeException> want) {
        compare(what, answerOf(call), "throws." + want.getSimpleName());
    }

    static void silent(String what, Step step) {
        compare(what, answerOf(() -> {
            step.run();
            return 0;
        }), "0");
    }

    static void compare(String what, String got, String want) {
        if (got.equals(want)) {
            asDue++;
        } else {
            wrong++;
            System.out.println(what + " answered " + got + ", due is " + want);
        }
    }

    static int wrongSoFar() {
        return wrong;
    }

    static void end() {
        System.out.println(asDue + " answers as due, " + wrong + " not");
        if (wrong != 0 || asDue == 0) {
            System.exit(1);
        }
    }
}
