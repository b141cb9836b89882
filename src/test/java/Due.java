import java.util.Objects;

/** Counts the answers that are due and those that are not. */
final class Due {
    interface Call {
        Object run();
    }

    interface CallOn {
        Object on(SuffixWright x);
    }

    interface Making {
        SuffixWright make();
    }

    private static int passed = 0;
    private static int failed = 0;

    private Due() {
    }

    static void is(String what, Object due, Object answer) {
        if (Objects.equals(due, answer)) {
            passed++;
        } else {
            failed++;
            System.out.println(what + " answered " + answer + ", due is " + due);
        }
    }

    /** The very class counts: what the machine throws is often below the due one. */
    static void thrown(String what, Class<? extends Exception> due, Call call) {
        is(what, "throws " + due.getName(), answerOf(call));
    }

    /** The call throws, and leaves an object like another one on which it was not made. */
    static void refused(String what, Class<? extends Exception> due, Making making, CallOn call) {
        SuffixWright x = making.make();
        thrown(what, due, () -> call.on(x));
        is(what + " changes nothing", Letters.everythingOf(making.make()), Letters.everythingOf(x));
    }

    /** What is found is the pattern, and how many letters it has is the answer. */
    static void found(String what, String due, SuffixWright x, CallOn call) {
        is(what + ": letters", due.length(), call.on(x));
        is(what + ": pattern", due, Letters.patternOf(x));
    }

    /** The answer of a call, or "throws " and the name of the exception. */
    static Object answerOf(Call call) {
        try {
            return call.run();
        } catch (Throwable e) {
            return "throws " + e.getClass().getName();
        }
    }

    static void end() {
        System.out.println(passed + " passed, " + failed + " failed");
        if (failed > 0 || passed == 0) {
            System.exit(1);
        }
    }
}
