import java.util.function.Supplier;

/** Counts what was asked and tells what was not as due. */
final class Check {
    private static int tests = 0;
    private static int asked = 0;
    private static int wrong = 0;
    private static String sentence = "";

    private Check() { }

    /** One test, named by the sentence of the document that it would see broken. */
    static void test(String named, Runnable body) {
        sentence = named;
        tests++;
        int before = asked;
        try {
            body.run();
        } catch (RuntimeException e) {
            tellWrong("throws " + e);
        }
        if (asked == before) {
            tellWrong("asks nothing");
        }
        sentence = "";
    }

    static void same(String what, Object got, Object due) {
        asked++;
        if (!got.equals(due)) {
            tellWrong(what + " answered " + got + ", due is " + due);
        }
    }

    private static void tellWrong(String what) {
        wrong++;
        System.out.println((sentence.isEmpty() ? "" : "[" + sentence + "] ") + what);
    }

    /** What a call answers, as a text; the name of its exception if it throws. */
    static String answer(Supplier<Object> call) {
        try {
            return String.valueOf(call.get());
        } catch (RuntimeException e) {
            return "throws." + e.getClass().getSimpleName();
        }
    }

    static void is(String what, Supplier<Object> call, Object due) {
        same(what, answer(call), String.valueOf(due));
    }

    static void noSuch(String what, Supplier<Object> call) {
        same(what, answer(call), "throws.IndexOutOfBoundsException");
    }

    static void notNow(String what, Supplier<Object> call) {
        same(what, answer(call), "throws.IllegalStateException");
    }

    static void notSo(String what, Supplier<Object> call) {
        same(what, answer(call), "throws.IllegalArgumentException");
    }

    static void finish(String name) {
        String counted = tests == 0 ? "" : tests + " tests, ";
        System.out.println(name + ": " + counted + asked + " answers, " + wrong + " not as due");
        if (wrong != 0 || asked == 0) {
            System.exit(1);
        }
    }
}
