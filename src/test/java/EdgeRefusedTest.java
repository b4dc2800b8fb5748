import static java.lang.Integer.MAX_VALUE;
import static java.lang.Integer.MIN_VALUE;

import java.util.List;
import java.util.function.Supplier;
import java.util.function.ToLongFunction;

/** Which exception a refused call throws, which comes first, and that neither it nor a question changes anything. */
final class EdgeRefusedTest extends PlanCases {
    private static final Class<? extends RuntimeException> INDEX = IndexOutOfBoundsException.class;
    private static final Class<? extends RuntimeException> ARGUMENT = IllegalArgumentException.class;
    private static final Class<? extends RuntimeException> STATE = IllegalStateException.class;

    private EdgeRefusedTest() {
    }

    public static void main(String[] args) {
        severalExceptions();
        severalExceptionsOfLay();
        refusedText();
        refusedQuestions();
        refusedActions();
        refusedWorks();
        refusedInFullPlans();
        refusedScripts();
        refusedSlots();
        questionsChangeNothing();
        scriptsChangeNothing();
        textCallsKeepTheState();
        saveKeepsAllButItsSlot();
        Checks.end("EdgeRefusedTest");
    }

    // ---- plans in which much can be lost

    /** Saves in the slot 0, and lets 14 states be remembered that all differ. */
    private static RateWires prepared(String plan, String text) {
        RateWires x = loaded(plan);
        x.save(0);
        for (int i = 0; i < 15; i++) {
            x.put(0, 40 + i);
        }
        type(x, text);
        return x;
    }

    private static RateWires small() {
        return prepared("Mm00m00m01m10w012305w103204w231100f0", "Mm00f0x");
    }

    private static RateWires full() {
        String plan = "M" + "m00".repeat(8) + "w011105".repeat(13);
        RateWires x = prepared(plan, plan + "f0f0");
        x.lay(3, 4, 1, 1, 0);
        return x;
    }

    private static RateWires sticking() {
        return prepared("Mm00m00m00w012305w103204w224401", "M");
    }

    private static RateWires disagreeing() {
        return prepared("Mm00m00w012305w011105", "M");
    }

    private static RateWires filled() {
        RateWires x = prepared("Mm00m00w011199w016199", "M");
        for (int i = 0; i < 150; i++) {
            x.work(0);
        }
        return x;
    }

    /** All that can be known of an object, by calls that change it: its end is this. */
    private static String everything(RateWires x) {
        StringBuilder s = new StringBuilder(told(x));
        for (int i = 0; i < 16; i++) {
            s.append("| undo ").append(outcome(x, RateWires::undo)).append(brief(x));
        }
        for (int slot = 0; slot <= 1; slot++) {
            int one = slot;
            s.append("| restore ").append(outcome(x, y -> y.restore(one))).append(brief(x));
        }
        s.append("| text ").append(x.errorPosition());
        s.append(" load ").append(outcome(x, RateWires::load)).append(brief(x));
        s.append(" length ").append(x.clearText());
        return s.toString();
    }

    private static String brief(RateWires x) {
        StringBuilder s = new StringBuilder();
        for (int what = 0; what <= 3; what++) {
            s.append(' ').append(x.about(what));
        }
        return s.toString();
    }

    private static String outcome(RateWires x, ToLongFunction<RateWires> call) {
        try {
            return "" + call.applyAsLong(x);
        } catch (RuntimeException e) {
            return e.getClass().getSimpleName();
        }
    }

    private static void refused(String what, Class<? extends RuntimeException> due, Supplier<RateWires> plan, ToLongFunction<RateWires> call) {
        RateWires x = plan.get();
        Checks.refused(what, due, () -> call.applyAsLong(x));
        Checks.refused(what + " again", due, () -> call.applyAsLong(x));
        Checks.same(what + " changes nothing", everything(plan.get()), everything(x));
    }

    private static void keeps(String what, Supplier<RateWires> plan, ToLongFunction<RateWires> call) {
        RateWires x = plan.get();
        long answer = call.applyAsLong(x);
        same(what + " answers the same again", answer, call.applyAsLong(x));
        Checks.same(what + " changes nothing", everything(plan.get()), everything(x));
    }

    // ---- which comes first

    private static void severalExceptions() {
        sentence("If several exceptions apply to a call, the one that its description names first is thrown");
        RateWires full = full();
        noArgument("append: c, then 120 characters", () -> full.append(256));
        noArgument("append: c, then 120 characters", () -> full.append(-1));
        noState("append: 120 characters", () -> full.append(0));
        noArgument("addModule: uses, then 8 modules", () -> full.addModule(4, 0));
        noArgument("addModule: makes, then 8 modules", () -> full.addModule(0, -1));
        noState("addModule: 8 modules", () -> full.addModule(0, 0));
        noIndex("module: m, then what", () -> full.module(8, 6));
        noIndex("module: m, then what", () -> full.module(-1, -1));
        noArgument("module: what", () -> full.module(7, 6));
        noIndex("wire: w, then what", () -> full.wire(14, 5));
        noIndex("wire: w, then what", () -> full.wire(-1, -1));
        noArgument("wire: what", () -> full.wire(13, 5));
        noIndex("put: w, then marks", () -> full.put(14, 100));
        noIndex("put: w, then marks", () -> full.put(-1, -1));
        noArgument("put: marks", () -> full.put(13, 100));
        RateWires loop = loaded("Mm00w001105");
        noArgument("put: marks, then a dead loop", () -> loop.put(0, -1));
        noState("put: a dead loop", () -> loop.put(0, 0));
        RateWires sticking = sticking();
        noArgument("round: rule, then sticking", () -> sticking.round(3));
        noState("round: sticking", () -> sticking.round(2));
        RateWires disagreeing = disagreeing();
        noArgument("round: rule, then rates", () -> disagreeing.round(-1));
        noState("round: rates", () -> disagreeing.round(0));
        noIndex("holds: w, then rule", () -> full.holds(14, 3));
        noIndex("holds: w, then rule", () -> full.holds(-1, -1));
        noArgument("holds: rule", () -> full.holds(13, 3));
        noIndex("agrees: w, then comes", () -> full.agrees(14, 7));
        noIndex("agrees: w, then comes", () -> full.agrees(-1, 0));
        noArgument("agrees: comes", () -> full.agrees(13, 0));
        noIndex("restore: slot, then nothing saved", () -> new RateWires().restore(2));
        noState("restore: nothing saved", () -> new RateWires().restore(1));
    }

    private static void severalExceptionsOfLay() {
        sentence("lay: IndexOutOfBoundsException, then IllegalArgumentException, then IllegalStateException");
        RateWires full = full();
        noIndex("a, then comes, then 14 wires", () -> full.lay(8, 0, 7, 1, 1));
        noIndex("b, then used, then 14 wires", () -> full.lay(0, 8, 1, 0, 1));
        noIndex("b, then marks, then 14 wires", () -> full.lay(0, -1, 1, 1, 100));
        noIndex("both, then all", () -> full.lay(-1, 8, 0, 7, -1));
        noArgument("comes, then 14 wires", () -> full.lay(0, 0, 0, 1, 1));
        noArgument("used, then 14 wires", () -> full.lay(0, 0, 1, 7, 1));
        noArgument("marks, then 14 wires", () -> full.lay(0, 0, 1, 1, 100));
        noState("14 wires", () -> full.lay(0, 0, 1, 1, 1));
        RateWires x = loaded("Mm00m01");
        noArgument("comes, then a dead loop", () -> x.lay(0, 0, 7, 1, 0));
        noArgument("used, then a dead loop", () -> x.lay(0, 0, 1, 0, 0));
        noArgument("marks, then a kind", () -> x.lay(1, 0, 1, 1, -1));
        noArgument("comes, then a kind", () -> x.lay(1, 1, 0, 1, 1));
        noState("a kind", () -> x.lay(1, 1, 1, 1, 1));
        noState("a dead loop", () -> x.lay(0, 0, 1, 1, 0));
        noIndex("b, then a kind", () -> x.lay(1, 2, 1, 1, 1));
        noIndex("no modules, then all", () -> new RateWires().lay(0, 0, 0, 0, -1));
    }

    // ---- refused calls

    private static void refusedText() {
        sentence("A call that throws an exception changes nothing: text");
        for (int c : new int[] {-1, 256, MIN_VALUE, MAX_VALUE}) {
            refused("append(" + c + ")", ARGUMENT, EdgeRefusedTest::small, x -> x.append(c));
            refused("append(" + c + ") to 120 characters", ARGUMENT, EdgeRefusedTest::full, x -> x.append(c));
        }
        refused("append to 120 characters", STATE, EdgeRefusedTest::full, x -> x.append('f'));
        refused("load of no plan", STATE, EdgeRefusedTest::small, RateWires::load);
        for (String text : new String[] {"", "m", "Mm0", "Mm00f0f0w0"}) {
            refused("load of " + text, STATE, () -> prepared("Mm00m00w011105", text), RateWires::load);
        }
    }

    private static void refusedQuestions() {
        sentence("A call that throws an exception changes nothing: what there is, what would be");
        for (int wrong : new int[] {-1, 9, MIN_VALUE, MAX_VALUE}) {
            refused("about(" + wrong + ")", ARGUMENT, EdgeRefusedTest::small, x -> x.about(wrong));
            refused("module(0, " + wrong + ")", ARGUMENT, EdgeRefusedTest::small, x -> x.module(0, wrong));
            refused("module(" + wrong + ", 0)", INDEX, EdgeRefusedTest::small, x -> x.module(wrong, 0));
            refused("wire(0, " + wrong + ")", ARGUMENT, EdgeRefusedTest::small, x -> x.wire(0, wrong));
            refused("wire(" + wrong + ", 0)", INDEX, EdgeRefusedTest::small, x -> x.wire(wrong, 0));
            refused("between(0, " + wrong + ")", INDEX, EdgeRefusedTest::small, x -> x.between(0, wrong));
            refused("between(" + wrong + ", 0)", INDEX, EdgeRefusedTest::small, x -> x.between(wrong, 0));
            refused("order(" + wrong + ", 0)", ARGUMENT, EdgeRefusedTest::small, x -> x.order(wrong, 0));
            refused("sticks(" + wrong + ")", ARGUMENT, EdgeRefusedTest::small, x -> x.sticks(wrong));
            refused("holds(0, " + wrong + ")", ARGUMENT, EdgeRefusedTest::small, x -> x.holds(0, wrong));
            refused("holds(" + wrong + ", 0)", INDEX, EdgeRefusedTest::small, x -> x.holds(wrong, 0));
            refused("fewest(" + wrong + ")", INDEX, EdgeRefusedTest::small, x -> x.fewest(wrong));
            refused("agrees(0, " + wrong + ")", ARGUMENT, EdgeRefusedTest::small, x -> x.agrees(0, wrong));
            refused("agrees(" + wrong + ", 1)", INDEX, EdgeRefusedTest::small, x -> x.agrees(wrong, 1));
        }
        refused("order(0, -1)", ARGUMENT, EdgeRefusedTest::small, x -> x.order(0, -1));
        refused("order(2, MIN)", ARGUMENT, EdgeRefusedTest::small, x -> x.order(2, MIN_VALUE));
    }

    private static void refusedActions() {
        sentence("A call that throws an exception changes nothing: addModule, lay, cut, put");
        for (int wrong : new int[] {-1, 100, MIN_VALUE, MAX_VALUE}) {
            refused("addModule(" + wrong + ", 0)", ARGUMENT, EdgeRefusedTest::small, x -> x.addModule(wrong, 0));
            refused("addModule(0, " + wrong + ")", ARGUMENT, EdgeRefusedTest::small, x -> x.addModule(0, wrong));
            refused("lay from " + wrong, INDEX, EdgeRefusedTest::small, x -> x.lay(wrong, 0, 1, 1, 1));
            refused("lay to " + wrong, INDEX, EdgeRefusedTest::small, x -> x.lay(0, wrong, 1, 1, 1));
            refused("lay, comes " + wrong, ARGUMENT, EdgeRefusedTest::small, x -> x.lay(0, 0, wrong, 1, 1));
            refused("lay, used " + wrong, ARGUMENT, EdgeRefusedTest::small, x -> x.lay(0, 0, 1, wrong, 1));
            refused("lay, marks " + wrong, ARGUMENT, EdgeRefusedTest::small, x -> x.lay(0, 0, 1, 1, wrong));
            refused("cut(" + wrong + ")", INDEX, EdgeRefusedTest::small, x -> x.cut(wrong));
            refused("put(" + wrong + ", 1)", INDEX, EdgeRefusedTest::small, x -> x.put(wrong, 1));
            refused("put(0, " + wrong + ")", ARGUMENT, EdgeRefusedTest::small, x -> x.put(0, wrong));
        }
        refused("lay of a wrong kind", STATE, EdgeRefusedTest::small, x -> x.lay(0, 3, 1, 1, 1));
        refused("lay of a dead loop of one", STATE, EdgeRefusedTest::small, x -> x.lay(1, 1, 1, 1, 0));
        refused("lay of a dead loop of two", STATE, EdgeRefusedTest::small, x -> x.lay(3, 2, 1, 1, 0));
        refused("put of the last marks of a loop", STATE, () -> prepared("Mm00m00w011105w101100", "M"), x -> x.put(0, 0));
        refused("put of the last marks of a wire to itself", STATE, () -> prepared("Mm00w001105", "M"), x -> x.put(0, 0));
    }

    private static void refusedWorks() {
        sentence("A call that throws an exception changes nothing: work, round, undo");
        for (int wrong : new int[] {-1, 8, MIN_VALUE, MAX_VALUE}) {
            refused("work(" + wrong + ")", INDEX, EdgeRefusedTest::small, x -> x.work(wrong));
            refused("round(" + wrong + ")", ARGUMENT, EdgeRefusedTest::small, x -> x.round(wrong));
        }
        refused("work with too few marks", STATE, EdgeRefusedTest::sticking, x -> x.work(2));
        refused("work where there is no place", STATE, EdgeRefusedTest::filled, x -> x.work(0));
        for (int rule = 0; rule <= 2; rule++) {
            int r = rule;
            refused("round that would stick", STATE, EdgeRefusedTest::sticking, x -> x.round(r));
            refused("round of rates that do not agree", STATE, EdgeRefusedTest::disagreeing, x -> x.round(r));
        }
        refused("undo of nothing", STATE, () -> undone(small()), RateWires::undo);
    }

    private static RateWires undone(RateWires x) {
        for (int i = 0; i < 14; i++) {
            x.undo();
        }
        return x;
    }

    private static void refusedInFullPlans() {
        sentence("A call that throws an exception changes nothing: 8 modules, 14 wires");
        refused("a ninth module", STATE, EdgeRefusedTest::full, x -> x.addModule(0, 0));
        refused("kinds out of range", ARGUMENT, EdgeRefusedTest::full, x -> x.addModule(4, 4));
        refused("a fifteenth wire", STATE, EdgeRefusedTest::full, x -> x.lay(5, 6, 1, 1, 1));
        refused("a fifteenth wire of a dead loop", STATE, EdgeRefusedTest::full, x -> x.lay(4, 3, 1, 1, 0));
        refused("a fifteenth wire of wrong rates", ARGUMENT, EdgeRefusedTest::full, x -> x.lay(5, 6, 7, 1, 1));
        refused("module 8", INDEX, EdgeRefusedTest::full, x -> x.work(8));
        refused("wire 14", INDEX, EdgeRefusedTest::full, x -> x.cut(14));
        refused("marks for the wire 14", INDEX, EdgeRefusedTest::full, x -> x.put(14, 1));
    }

    private static void refusedScripts() {
        sentence("A call that throws an exception changes nothing: scripts, simulations");
        for (int n : new int[] {0, 4, -1, MIN_VALUE, MAX_VALUE}) {
            refused("runScript of " + n, ARGUMENT, EdgeRefusedTest::small, x -> x.runScript(n, 400002L));
        }
        refused("a negative script", ARGUMENT, EdgeRefusedTest::small, x -> x.runScript(3, -400002L));
        refused("7 digits", ARGUMENT, EdgeRefusedTest::small, x -> x.runScript(1, 1400002L));
        refused("13 digits", ARGUMENT, EdgeRefusedTest::small, x -> x.runScript(2, 1400002400002L));
        refused("19 digits", ARGUMENT, EdgeRefusedTest::small, x -> x.runScript(3, 1400002400002400002L));
        for (int m : new int[] {0, 100, -1, MIN_VALUE, MAX_VALUE}) {
            refused("simulate of " + m, ARGUMENT, EdgeRefusedTest::small, x -> x.simulate(1, m));
        }
    }

    private static void refusedSlots() {
        sentence("A call that throws an exception changes nothing: save slots");
        for (int slot : new int[] {-1, 2, MIN_VALUE, MAX_VALUE}) {
            refused("save(" + slot + ")", INDEX, EdgeRefusedTest::small, x -> x.save(slot));
            refused("restore(" + slot + ")", INDEX, EdgeRefusedTest::small, x -> x.restore(slot));
        }
        refused("restore of nothing", STATE, EdgeRefusedTest::small, x -> x.restore(1));
    }

    // ---- what changes nothing

    private static void questionsChangeNothing() {
        sentence("what would be; these and all following methods up to the save slots change nothing");
        for (Supplier<RateWires> plan : plans()) {
            for (int rule = 0; rule <= 2; rule++) {
                int r = rule;
                keeps("order", plan, x -> x.order(r, 1));
                keeps("order far behind", plan, x -> x.order(r, MAX_VALUE));
                keeps("sticks", plan, x -> x.sticks(r));
                keeps("holds", plan, x -> x.holds(0, r));
            }
            keeps("bestRule", plan, RateWires::bestRule);
            keeps("fewest", plan, x -> x.fewest(0));
            keeps("fewest", plan, x -> x.fewest(1));
            for (int comes = 1; comes <= 6; comes++) {
                int c = comes;
                keeps("agrees", plan, x -> x.agrees(0, c));
            }
            keeps("between", plan, x -> x.between(0, 1));
            for (int what = 0; what <= 8; what++) {
                int number = what;
                keeps("about", plan, x -> x.about(number));
            }
        }
    }

    private static List<Supplier<RateWires>> plans() {
        return List.of(EdgeRefusedTest::small, EdgeRefusedTest::full, EdgeRefusedTest::sticking, EdgeRefusedTest::disagreeing);
    }

    private static void scriptsChangeNothing() {
        sentence("scripts and simulations change nothing");
        long[] scripts = {200000200000200000L, 101230300199400001L, 400000400000400001L, 500000500001500002L, 500000200001400000L, 123456789012345678L};
        for (Supplier<RateWires> plan : plans()) {
            for (long script : scripts) {
                keeps("script " + script, plan, x -> x.runScript(3, script));
            }
            for (long seed = 0; seed < 12; seed++) {
                long s = seed;
                keeps("simulate " + seed, plan, x -> x.simulate(s, 99));
            }
        }
    }

    private static void textCallsKeepTheState() {
        sentence("The methods in the section \"actions\" change the state, which consists of everything but the text");
        RateWires x = small();
        x.append('y');
        x.clearText();
        x.errorPosition();
        type(x, "Mm00f0x");
        Checks.same("text calls change the text only", everything(small()), everything(x));
    }

    private static void saveKeepsAllButItsSlot() {
        sentence("save: Stores the present state in a save slot, and nothing else");
        RateWires x = small();
        String before = told(x);
        same("save", 3, x.save(1));
        unchanged("save", x, before);
        for (int left = 13; left >= 0; left--) {
            same("what is remembered stays", left, x.undo());
        }
        noState("there is no more", x::undo);
        same("the text stays", 6, x.errorPosition());
        same("the slot 1", 3, x.restore(1));
        unchanged("the slot 1", x, before);
        same("the slot 0", 3, x.restore(0));
        same("is as before", 7, x.wire(0, 4));
    }
}
