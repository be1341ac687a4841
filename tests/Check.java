/** Counts and tells answers that are not as due; a test ends with exit code 1 if there was one. */
final class Check {
    /** A call that may throw. */
    interface Call {
        long answer();
    }

    static final String INDEX = "throws.IndexOutOfBoundsException";
    static final String ARGUMENT = "throws.IllegalArgumentException";
    static final String STATE = "throws.IllegalStateException";

    private static int wrong = 0;
    private static int made = 0;

    private Check() {
    }

    /** What a call answers, or how it throws. */
    static String told(Call call) {
        try {
            return Long.toString(call.answer());
        } catch (RuntimeException | Error e) {
            return "throws." + e.getClass().getSimpleName();
        }
    }

    static void same(String what, Object got, Object want) {
        made++;
        if (!got.equals(want)) {
            wrong++;
            System.out.println(what + " answered " + got + ", due is " + want);
        }
    }

    static void gives(String what, long want, Call call) {
        same(what, told(call), Long.toString(want));
    }

    static void refuses(String what, String exception, Call call) {
        same(what, told(call), exception);
    }

    static long bit(boolean isSo) {
        return isSo ? 1 : 0;
    }

    /** A print: from the first number, each time 31 times it and the next one together. */
    static long fold(long... numbers) {
        long print = numbers[0];
        for (int i = 1; i < numbers.length; i++) {
            print = 31 * print + numbers[i];
        }
        return print;
    }

    static void end(String name) {
        System.out.println(name + ": " + made + " answers, " + wrong + " not as due");
        if (wrong != 0 || made == 0) {
            System.exit(1);
        }
    }
}
