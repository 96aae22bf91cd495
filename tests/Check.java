import java.util.Objects;

/** Counts what is not as it is due, and prints it. */
final class Check {
    interface Call {
        Object answer();
    }

    /** A call that is asked with one number after the other. */
    interface Numbered {
        Object answer(int number);
    }

    static final Class<IllegalArgumentException> ARGUMENT = IllegalArgumentException.class;
    static final Class<IllegalStateException> STATE = IllegalStateException.class;
    static final Class<IndexOutOfBoundsException> INDEX = IndexOutOfBoundsException.class;

    private static int asked = 0;
    private static int wrong = 0;

    private Check() {
    }

    static void due(String what, Object got, Object want) {
        asked++;
        if (!Objects.equals(got, want)) {
            wrong++;
            if (wrong <= 50) {
                System.out.println(what + ": answered " + got + ", due is " + want);
            }
        }
    }

    static void throwing(String what, Class<? extends RuntimeException> kind, Call call) {
        due(what, answer(call), "throws " + kind.getSimpleName());
    }

    /** A call that is refused throws, and changes nothing. */
    static void refused(String what, Bundlesale x, Class<? extends RuntimeException> kind, Call call) {
        String before = Snapshot.of(x);
        throwing(what, kind, call);
        due(what + ": nothing is changed", Snapshot.of(x), before);
    }

    /** The first number that is refused on each side, and the ones farthest out. */
    static void beyond(String what, Bundlesale x, int least, int most, Class<? extends RuntimeException> kind,
            Numbered call) {
        for (int number : new int[] {least - 1, most + 1, Integer.MIN_VALUE, Integer.MAX_VALUE}) {
            refused(what + " " + number, x, kind, () -> call.answer(number));
        }
    }

    /** A call that is let but can't be done, or only asks, tells this and changes nothing. */
    static void changingNothing(String what, Bundlesale x, Object told, Call call) {
        String before = Snapshot.of(x);
        due(what, answer(call), told);
        due(what + ": nothing is changed", Snapshot.of(x), before);
    }

    /** The answer of a call, or the name of what it throws. */
    static Object answer(Call call) {
        try {
            return call.answer();
        } catch (RuntimeException thrown) {
            return "throws " + thrown.getClass().getSimpleName();
        }
    }

    static boolean isAllDue() {
        return wrong == 0;
    }

    /** Stands at the end of every main. */
    static void end(String test) {
        System.out.println(test + ": " + asked + " answers, " + wrong + " not as due");
        if (wrong != 0 || asked == 0) {
            System.exit(1);
        }
    }
}
