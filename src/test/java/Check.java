import java.util.function.Supplier;

/** Counts what was asked and tells what was not as due. */
final class Check {
    private static int asked = 0;
    private static int wrong = 0;

    private Check() { }

    static void same(String what, Object got, Object due) {
        asked++;
        if (!got.equals(due)) {
            wrong++;
            System.out.println(what + " answered " + got + ", due is " + due);
        }
    }

    /** What a call answers, as a text; the name of its exception if it throws. */
    static String answer(Supplier<Object> call) {
        try {
            return String.valueOf(call.get());
        } catch (RuntimeException e) {
            return "throws." + e.getClass().getSimpleName();
        }
    }

    static void is(String what, Supplier<Object> call, Object due) {
        same(what, answer(call), String.valueOf(due));
    }

    static void noSuch(String what, Supplier<Object> call) {
        same(what, answer(call), "throws.IndexOutOfBoundsException");
    }

    static void notNow(String what, Supplier<Object> call) {
        same(what, answer(call), "throws.IllegalStateException");
    }

    static void finish(String name) {
        System.out.println(name + ": " + asked + " answers, " + wrong + " not as due");
        if (wrong != 0 || asked == 0) {
            System.exit(1);
        }
    }
}
