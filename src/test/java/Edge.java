import java.lang.reflect.InvocationTargetException;
import java.lang.reflect.Method;
import java.util.Arrays;
import java.util.Comparator;

/**
 * Runs the edge tests of a class: each is a method whose name begins with the promise or the term
 * that it is of. No object is used for more than the 512 calls of which the document speaks.
 */
final class Edge {
    static final int MIN = Integer.MIN_VALUE;
    static final int MAX = Integer.MAX_VALUE;
    static final Class<? extends RuntimeException> INDEX = IndexOutOfBoundsException.class;
    static final Class<? extends RuntimeException> ARGUMENT = IllegalArgumentException.class;
    static final Class<? extends RuntimeException> STATE = IllegalStateException.class;
    static final String NAME = "(promise|term)\\d\\d?_\\w+";

    /** Makes an object, each time just the same. */
    interface Recipe {
        StrataRepo make();
    }

    interface Call {
        void on(StrataRepo repo);
    }

    /** A call with one argument that is tried with several numbers. */
    interface NumberCall {
        void on(StrataRepo repo, int number);
    }

    private static String test = "";
    private static int tests = 0;
    private static int done = 0;
    private static int wrong = 0;

    private Edge() {
    }

    static void run(Class<?> all) {
        Method[] methods = all.getDeclaredMethods();
        Arrays.sort(methods, Comparator.comparing(Method::getName));
        for (Method method : methods) {
            if (method.getName().matches(NAME)) {
                run(method);
            }
        }
        System.out.println(tests + " tests, " + done + " checks, " + wrong + " wrong");
        if (wrong != 0 || tests == 0) {
            System.exit(1);
        }
    }

    private static void run(Method method) {
        tests++;
        test = method.getName();
        int before = done;
        try {
            method.setAccessible(true);
            method.invoke(null);
        } catch (InvocationTargetException e) {
            say("a call threw " + e.getCause());
        } catch (IllegalAccessException e) {
            say("cannot be run");
        }
        if (done == before) {
            say("checks nothing");
        }
    }

    static void due(long got, long want) {
        done++;
        if (got != want) {
            say("answered " + got + ", due is " + want);
        }
    }

    static void due(boolean got, boolean want) {
        done++;
        if (got != want) {
            say("answered " + got + ", due is " + want);
        }
    }

    static void due(String got, String want) {
        done++;
        if (!got.equals(want)) {
            say("answered '" + got + "', due is '" + want + "'");
        }
    }

    static void dueDouble(double got, double want) {
        done++;
        if (got != want) {
            say("answered " + got + ", due is " + want);
        }
    }

    /** Each call on a new object: it throws just this, and what comes behind it is as without it. */
    static void refused(Class<? extends RuntimeException> kind, Recipe recipe, Call... calls) {
        for (int n = 0; n < calls.length; n++) {
            refused(kind, recipe, calls[n], "call " + n);
        }
    }

    static void refused(Class<? extends RuntimeException> kind, Recipe recipe, int[] numbers, NumberCall call) {
        for (int number : numbers) {
            refused(kind, recipe, repo -> call.on(repo, number), "with " + number);
        }
    }

    private static void refused(Class<? extends RuntimeException> kind, Recipe recipe, Call call, String what) {
        for (Tail tail : Tail.values()) {
            done++;
            StrataRepo asked = recipe.make();
            Class<?> thrown = null;
            try {
                call.on(asked);
            } catch (RuntimeException e) {
                thrown = e.getClass();
            }
            if (thrown != kind) {
                say(what + " threw " + thrown + ", due is " + kind);
                return;
            }
            if (!tail.of(asked).equals(tail.of(recipe.make()))) {
                say(what + " threw, and changed something (seen by " + tail + ")");
            }
        }
    }

    static int[] numbers(int... numbers) {
        return numbers;
    }

    private static void say(String text) {
        wrong++;
        StringBuilder place = new StringBuilder();
        for (StackTraceElement element : new Throwable().getStackTrace()) {
            if (element.getMethodName().equals(test)) {
                place.append(" (line ").append(element.getLineNumber()).append(')');
                break;
            }
        }
        System.out.println(test + place + ": " + text);
    }
}
