/** Counts and tells the calls whose answers are not those that are due. */
final class Check {
    interface Call {
        Object answer();
    }

    private static int wrong = 0;
    private static int looked = 0;

    private Check() {
    }

    /** The answer of a call, or the name of what it throws, with "throws." ahead. */
    static String told(Call call) {
        try {
            return String.valueOf(call.answer());
        } catch (RuntimeException e) {
            return "throws." + e.getClass().getSimpleName();
        }
    }

    static void due(String what, Object want, Call call) {
        String got = told(call);
        looked++;
        if (!got.equals(String.valueOf(want))) {
            wrong++;
            System.out.println(what + " answered " + got + ", due is " + want);
        }
    }

    static void argument(String what, Call call) {
        due(what, "throws.IllegalArgumentException", call);
    }

    static void state(String what, Call call) {
        due(what, "throws.IllegalStateException", call);
    }

    static void index(String what, Call call) {
        due(what, "throws.IndexOutOfBoundsException", call);
    }

    /** Ends the test; its exit code is 1 if there was a wrong answer, or none at all was looked at. */
    static void end() {
        System.out.println(looked + " answers looked at, " + wrong + " wrong");
        if (wrong > 0 || looked == 0) {
            System.exit(1);
        }
    }
}
