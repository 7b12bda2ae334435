/**
 * Tests of one sentence of the document each: tells the sentences that do not hold, with the calls
 * that show it.
 */
final class Sentences {
    private static final int MOST_SHOWN = 5;

    private static String words = "";
    private static int tested = 0;
    private static int broken = 0;
    private static int wrong = 0;

    private Sentences() {
    }

    /** One sentence, as it stands in the document, and its test. */
    static void sentence(String where, String text, Runnable test) {
        words = where + ": " + text;
        wrong = 0;
        tested++;
        try {
            test.run();
        } catch (RuntimeException e) {
            fault("a call that is due to answer threw " + e);
        }
        if (wrong > 0) {
            broken++;
        }
    }

    private static void fault(String what) {
        wrong++;
        if (wrong == 1) {
            System.out.println(words);
        }
        if (wrong <= MOST_SHOWN) {
            System.out.println("    " + what);
        }
    }

    static void due(String call, long got, long want) {
        if (got != want) {
            fault(call + " answered " + got + ", due is " + want);
        }
    }

    static void same(String what, String got, String want) {
        if (!got.equals(want)) {
            fault(what + ": " + got + ", due is " + want);
        }
    }

    static void noState(String call, Runnable made) {
        refused(call, IllegalStateException.class, made);
    }

    static void noElement(String call, Runnable made) {
        refused(call, IndexOutOfBoundsException.class, made);
    }

    static void noArgument(String call, Runnable made) {
        refused(call, IllegalArgumentException.class, made);
    }

    private static void refused(String call, Class<?> want, Runnable made) {
        String got = "nothing";
        try {
            made.run();
        } catch (RuntimeException e) {
            got = e.getClass().getSimpleName();
        }
        if (!got.equals(want.getSimpleName())) {
            fault(call + " threw " + got + ", due is " + want.getSimpleName());
        }
    }

    /** Behind the last sentence: ends with 1 if one did not hold. */
    static void end() {
        System.out.println(tested + " sentences tested, " + broken + " do not hold");
        if (broken != 0) {
            System.exit(1);
        }
    }
}
