import java.util.function.LongSupplier;

/** Counts and prints what is not as due; every test ends by telling the outcome. Public for the example of ReadmeTest. */
public final class Checks {
    private static int asked = 0;
    private static int wrong = 0;
    private static int sentences = 0;
    private static int askedBefore = 0;
    private static String sentence = "";

    private Checks() {
    }

    /** What is asked from now on is asked for a sentence of the document; the one before must have been asked for. */
    static void sentence(String words) {
        endSentence();
        sentences++;
        askedBefore = asked;
        sentence = "\"" + words + "\": ";
    }

    private static void endSentence() {
        if (sentences > 0 && asked == askedBefore) {
            tell("nothing was asked for it");
        }
    }

    public static void same(String what, long due, long got) {
        asked++;
        if (due != got) {
            tell(what + ": answered " + got + ", due is " + due);
        }
    }

    public static void same(String what, String due, String got) {
        asked++;
        if (!due.equals(got)) {
            tell(what + ": told " + got + ", due is " + due);
        }
    }

    static void isTrue(String what, boolean holds) {
        same(what, 1, holds ? 1 : 0);
    }

    /** An exception of exactly this class, not of one below it. */
    public static void refused(String what, Class<? extends RuntimeException> due, LongSupplier call) {
        asked++;
        String got;
        try {
            got = "the answer " + call.getAsLong();
        } catch (RuntimeException e) {
            if (e.getClass() == due) {
                return;
            }
            got = e.toString();
        }
        tell(what + ": came to " + got + ", due is " + due.getSimpleName());
    }

    private static void tell(String what) {
        wrong++;
        System.out.println(sentence + what);
    }

    static void end(String test) {
        endSentence();
        String of = sentences == 0 ? "" : sentences + " sentences, ";
        System.out.println(test + ": " + of + asked + " checks, " + wrong + " wrong");
        if (wrong != 0) {
            System.exit(1);
        }
    }
}
