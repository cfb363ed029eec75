/** Counts the answers that are not due and prints them; a call that throws must change nothing. */
final class Check {
    interface Call {
        void run();
    }

    private static int done = 0;
    private static int wrong = 0;

    private Check() {
    }

    static void due(int promise, String what, long got, long want) {
        done++;
        if (got != want) {
            say(promise, what + " answered " + got + ", due is " + want);
        }
    }

    static void due(int promise, String what, boolean got, boolean want) {
        due(promise, what, got ? 1L : 0L, want ? 1L : 0L);
    }

    static void due(int promise, String what, String got, String want) {
        done++;
        if (!got.equals(want)) {
            say(promise, what + " answered " + got + ", due is " + want);
        }
    }

    static void near(int promise, String what, double got, double want) {
        done++;
        if (got != want) {
            say(promise, what + " answered " + got + ", due is " + want);
        }
    }

    static void index(int promise, String what, StrataRepo repo, Call call) {
        fails(promise, what, repo, IndexOutOfBoundsException.class, call);
    }

    static void argument(int promise, String what, StrataRepo repo, Call call) {
        fails(promise, what, repo, IllegalArgumentException.class, call);
    }

    static void state(int promise, String what, StrataRepo repo, Call call) {
        fails(promise, what, repo, IllegalStateException.class, call);
    }

    private static void fails(int promise, String what, StrataRepo repo, Class<?> kind, Call call) {
        done++;
        String before = Look.at(repo);
        Class<?> thrown = null;
        try {
            call.run();
        } catch (RuntimeException e) {
            thrown = e.getClass();
        }
        if (thrown != kind) {
            say(promise, what + " threw " + thrown + ", due is " + kind);
        }
        if (!Look.at(repo).equals(before)) {
            say(promise, what + " threw, and changed something");
        }
    }

    static void say(int promise, String text) {
        wrong++;
        System.out.println("promise " + promise + ": " + text);
    }

    static void end() {
        System.out.println(done + " checks, " + wrong + " wrong");
        if (wrong != 0) {
            System.exit(1);
        }
    }
}
