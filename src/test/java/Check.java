/** What the tests share: a call's answer as a text, and the count of those that are not as due. */
final class Check {
    interface Call {
        long answer();
    }

    interface Step {
        void run();
    }

    private static int asDue = 0;
    private static int wrong = 0;
    private static String within = "";

    private Check() {
    }

    /** What is told before every answer that is not as due, until the next one begins. */
    static void begin(String part) {
        within = part;
    }

    static String answerOf(Call call) {
        try {
            return Long.toString(call.answer());
        } catch (RuntimeException e) {
            return "throws." + e.getClass().getSimpleName();
        }
    }

    static void due(String what, Call call, long want) {
        compare(what, answerOf(call), Long.toString(want));
    }

    static void thrown(String what, Call call, Class<? extends RuntimeException> want) {
        compare(what, answerOf(call), "throws." + want.getSimpleName());
    }

    static void silent(String what, Step step) {
        compare(what, answerOf(() -> {
            step.run();
            return 0;
        }), "0");
    }

    /** The answers to what = 0, 1, 2 .. of one segment. */
    static void dueSegment(String what, SegmentIndex x, int segment, int... want) {
        for (int k = 0; k < want.length; k++) {
            int asked = k;
            due(what + " segment(" + segment + ", " + k + ")", () -> x.segment(segment, asked), want[k]);
        }
    }

    /** The uppermost set is just these hits: document, field, place, document, ... */
    static void dueHits(String what, SegmentIndex x, int... want) {
        due(what + " count(6)", () -> x.count(6), want.length / 3);
        for (int i = 0; i < want.length; i++) {
            int at = i;
            due(what + " hit(" + i / 3 + ", " + i % 3 + ")", () -> x.hit(at / 3, at % 3), want[i]);
        }
        due(what + " hit past the last", () -> x.hit(want.length / 3, 0), SegmentIndex.NONE);
    }

    static void compare(String what, String got, String want) {
        if (got.equals(want)) {
            asDue++;
        } else {
            wrong++;
            System.out.println(within + what + " answered " + got + ", due is " + want);
        }
    }

    static int wrongSoFar() {
        return wrong;
    }

    static int madeSoFar() {
        return asDue + wrong;
    }

    static void end() {
        System.out.println(asDue + " answers as due, " + wrong + " not");
        if (wrong != 0 || asDue == 0) {
            System.exit(1);
        }
    }
}
