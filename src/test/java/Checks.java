import java.util.function.LongSupplier;

/** Counts and prints what is not as due; every test ends by telling the outcome. */
final class Checks {
    private static int asked = 0;
    private static int wrong = 0;

    private Checks() {
    }

    static void same(String what, long due, long got) {
        asked++;
        if (due != got) {
            wrong++;
            System.out.println(what + ": answered " + got + ", due is " + due);
        }
    }

    static void isTrue(String what, boolean holds) {
        same(what, 1, holds ? 1 : 0);
    }

    /** An exception of exactly this class, not of one below it. */
    static void refused(String what, Class<? extends RuntimeException> due, LongSupplier call) {
        asked++;
        String got;
        try {
            got = "the answer " + call.getAsLong();
        } catch (RuntimeException e) {
            if (e.getClass() == due) {
                return;
            }
            got = e.toString();
        }
        wrong++;
        System.out.println(what + ": came to " + got + ", due is " + due.getSimpleName());
    }

    static void end(String test) {
        System.out.println(test + ": " + asked + " checks, " + wrong + " wrong");
        if (wrong != 0) {
            System.exit(1);
        }
    }
}
