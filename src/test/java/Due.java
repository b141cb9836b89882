import java.util.Objects;

/** Counts the answers that are due and those that are not. */
final class Due {
    interface Call {
        Object run();
    }

    private static int passed = 0;
    private static int failed = 0;

    private Due() {
    }

    static void is(String what, Object due, Object answer) {
        if (Objects.equals(due, answer)) {
            passed++;
        } else {
            failed++;
            System.out.println(what + " answered " + answer + ", due is " + due);
        }
    }

    /** The very class counts: what the machine throws is often below the due one. */
    static void thrown(String what, Class<? extends Exception> due, Call call) {
        is(what, "throws " + due.getName(), answerOf(call));
    }

    /** The answer of a call, or "throws " and the name of the exception. */
    static Object answerOf(Call call) {
        try {
            return call.run();
        } catch (Throwable e) {
            return "throws " + e.getClass().getName();
        }
    }

    static void end() {
        System.out.println(passed + " passed, " + failed + " failed");
        if (failed > 0 || passed == 0) {
            System.exit(1);
        }
    }
}
