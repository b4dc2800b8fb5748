import java.util.function.IntToLongFunction;
import java.util.function.LongSupplier;

/** What the tests of single calls say in short. */
abstract class PlanCases {
    static final int NONE = -1;
    static final long FACTOR = 6364136223846793005L;
    static final long SUMMAND = 1442695040888963407L;
    private static final int[] FAR = {Integer.MIN_VALUE, Integer.MIN_VALUE + 1, -1000000, 1000000, Integer.MAX_VALUE - 1, Integer.MAX_VALUE};

    static void sentence(String words) {
        Checks.sentence(words);
    }

    static void same(String what, long due, long got) {
        Checks.same(what, due, got);
    }

    static void noIndex(String what, LongSupplier call) {
        Checks.refused(what, IndexOutOfBoundsException.class, call);
    }

    static void noArgument(String what, LongSupplier call) {
        Checks.refused(what, IllegalArgumentException.class, call);
    }

    static void noState(String what, LongSupplier call) {
        Checks.refused(what, IllegalStateException.class, call);
    }

    /** All from low to high is answered, and what lies outside, near and far, is no index. */
    static void indexes(String what, int low, int high, IntToLongFunction call) {
        range(what, IndexOutOfBoundsException.class, low, high, call);
    }

    /** All from low to high is answered, and what lies outside, near and far, is no argument. */
    static void arguments(String what, int low, int high, IntToLongFunction call) {
        range(what, IllegalArgumentException.class, low, high, call);
    }

    private static void range(String what, Class<? extends RuntimeException> due, int low, int high, IntToLongFunction call) {
        for (int i = low; i <= high; i++) {
            answered(what + " " + i, i, call);
        }
        Checks.refused(what + " " + (low - 1), due, () -> call.applyAsLong(low - 1));
        Checks.refused(what + " " + (high + 1), due, () -> call.applyAsLong(high + 1));
        for (int far : FAR) {
            Checks.refused(what + " " + far, due, () -> call.applyAsLong(far));
        }
    }

    private static void answered(String what, int i, IntToLongFunction call) {
        String outcome = "an answer";
        try {
            call.applyAsLong(i);
        } catch (RuntimeException e) {
            outcome = e.toString();
        }
        Checks.same(what, "an answer", outcome);
    }

    static void type(RateWires x, String s) {
        x.clearText();
        for (int i = 0; i < s.length(); i++) {
            x.append(s.charAt(i));
        }
    }

    static RateWires plain(int modules) {
        return loaded("M" + "m00".repeat(modules));
    }

    static RateWires loaded(String s) {
        RateWires x = new RateWires();
        type(x, s);
        same("left out of " + s, 0, x.load());
        return x;
    }

    static int errorIn(String s) {
        RateWires x = new RateWires();
        type(x, s);
        return x.errorPosition();
    }

    /** Everything that can be asked of a state but for the text, the slots and what is remembered. */
    static String told(RateWires x) {
        StringBuilder s = new StringBuilder();
        for (int what = 0; what <= 8; what++) {
            s.append(x.about(what)).append(' ');
        }
        for (int m = 0; m < x.about(0); m++) {
            for (int what = 0; what <= 5; what++) {
                s.append(x.module(m, what)).append(' ');
            }
        }
        for (int w = 0; w < x.about(1); w++) {
            for (int what = 0; what <= 4; what++) {
                s.append(x.wire(w, what)).append(' ');
            }
        }
        return s.toString();
    }

    static void unchanged(String what, RateWires x, String before) {
        Checks.same(what + " changes nothing", before, told(x));
    }

    /** Which modules work in a round by a rule, and nothing behind them. */
    static void orderIs(String what, RateWires x, int rule, String due) {
        for (int k = 0; k < due.length(); k++) {
            same(what + ", rule " + rule + ", work " + k, due.charAt(k) - '0', x.order(rule, k));
        }
        same(what + ", rule " + rule + ", behind the last", NONE, x.order(rule, due.length()));
        same(what + ", rule " + rule + ", far behind", NONE, x.order(rule, Integer.MAX_VALUE));
    }

    /** The works and the marks of a simulation's turns that are done with actions on an object of its own. */
    static int[] turns(String plan, long seed, int m) {
        RateWires y = loaded(plan);
        int before = y.about(3);
        long x = seed;
        for (int i = 0; i < m; i++) {
            x = x * FACTOR + SUMMAND;
            try {
                turn(y, (int) (x >>> 33));
            } catch (IndexOutOfBoundsException | IllegalStateException e) {
                continue;
            }
        }
        return new int[] {y.about(3) - before, y.about(2)};
    }

    private static void turn(RateWires y, int r) {
        switch (r % 8) {
            case 0:
                y.lay(r / 8 % 8, r / 64 % 8, 1 + r / 512 % 3, 1 + r / 2048 % 3, r / 8192 % 8);
                break;
            case 1:
                y.cut(r / 512 % 14);
                break;
            case 2:
                y.round(r / 512 % 3);
                break;
            default:
                y.work(r / 8 % 8);
                break;
        }
    }

    /** What a simulation returns for works and marks. */
    static int toldOf(int[] worksAndMarks) {
        return 1000 * Math.min(worksAndMarks[0], 999) + Math.min(worksAndMarks[1], 999);
    }
}
