import java.util.concurrent.Callable;

/** Counts what the tests find, and says what is not as it is due. */
final class Checks {
    private static int passed = 0;
    private static int failed = 0;
    private static boolean isSound;

    private Checks() {
    }

    interface Body {
        void run() throws Exception;
    }

    static void test(String name, Body body) {
        isSound = true;
        try {
            body.run();
        } catch (Exception e) {
            complain("stopped by " + e);
        }
        if (isSound) {
            passed++;
        } else {
            failed++;
            System.out.println("FAILED: " + name);
        }
    }

    static void same(Object due, Object answer, String what) {
        if (!due.equals(answer)) {
            complain(what + ": due is " + due + ", answered " + answer);
        }
    }

    static void isTrue(boolean holds, String what) {
        if (!holds) {
            complain(what);
        }
    }

    static void fails(Class<? extends Exception> due, Callable<?> call, String what) {
        Object answer;
        try {
            answer = call.call();
        } catch (Exception e) {
            answer = e.getClass();
        }
        same(due, answer, what);
    }

    private static void complain(String text) {
        isSound = false;
        System.out.println("  " + text);
    }

    /** Prints the closing line, and tells whether no test failed. */
    static boolean close() {
        System.out.println("tests: " + passed + " passed, " + failed + " failed");
        return failed == 0 && passed > 0;
    }
}
