import java.util.Objects;

/** Counts what is not as it is due, and prints it. */
final class Check {
    interface Call {
        Object answer();
    }

    static final Class<IllegalArgumentException> ARGUMENT = IllegalArgumentException.class;
    static final Class<IllegalStateException> STATE = IllegalStateException.class;
    static final Class<IndexOutOfBoundsException> INDEX = IndexOutOfBoundsException.class;

    private static int asked = 0;
    private static int wrong = 0;

    private Check() {
    }

    static void due(String what, Object got, Object want) {
        asked++;
        if (!Objects.equals(got, want)) {
            wrong++;
            if (wrong <= 50) {
                System.out.println(what + ": answered " + got + ", due is " + want);
            }
        }
    }

    static void throwing(String what, Class<? extends RuntimeException> kind, Call call) {
        due(what, answer(call), "throws " + kind.getSimpleName());
    }

    /** The answer of a call, or the name of what it throws. */
    static Object answer(Call call) {
        try {
            return call.answer();
        } catch (RuntimeException thrown) {
            return "throws " + thrown.getClass().getSimpleName();
        }
    }

    static boolean isAllDue() {
        return wrong == 0;
    }

    /** Stands at the end of every main. */
    static void end(String test) {
        System.out.println(test + ": " + asked + " answers, " + wrong + " not as due");
        if (wrong != 0 || asked == 0) {
            System.exit(1);
        }
    }
}
