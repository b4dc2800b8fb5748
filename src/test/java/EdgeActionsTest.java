import java.util.ArrayList;
import java.util.List;
import java.util.function.ToLongFunction;

/** The edges of the actions, of undo and of the save slots, promises 10 to 16, 25 and 26: a test for each sentence. */
final class EdgeActionsTest extends PlanCases {
    private EdgeActionsTest() {
    }

    public static void main(String[] args) {
        addModuleRefusedForKinds();
        addModuleRefusedForEight();
        layRefusedForModules();
        layRefusedForNumbers();
        layRefusedForKinds();
        layRefusedForFourteen();
        layRefusedForDeadLoops();
        cutRefused();
        cutMarks();
        putRefusedForWires();
        putRefusedForMarks();
        putHeld();
        putOnDeadLoops();
        workRefusedForModules();
        workRefusedForMarks();
        workMarks();
        roundRefusedForRules();
        roundRefusedForRates();
        roundRefusedForSticking();
        roundWorks();
        whatIsAnAction();
        alsoIfNothingBecomesDifferent();
        fourteenStates();
        oldestForgotten();
        undoTakesBackTheLast();
        undoIsNone();
        undoRefused();
        loadAndRestoreAreNone();
        textAndSlotsAreNotOfTheState();
        saveRefused();
        saveWires();
        saveStores();
        restoreRefusedForSlots();
        restoreRefusedForNothing();
        restoreReplaces();
        restoreKeeps();
        Checks.end("EdgeActionsTest");
    }

    // ---- 10 to 12

    private static void addModuleRefusedForKinds() {
        sentence("addModule: Throws IllegalArgumentException if a kind is out of range");
        arguments("addModule to 7, uses", 0, 3, kind -> plain(7).addModule(kind, 3));
        arguments("addModule to 7, makes", 0, 3, kind -> plain(7).addModule(3, kind));
    }

    private static void addModuleRefusedForEight() {
        sentence("addModule: Throws IllegalStateException if there are 8");
        for (int n = 0; n < 8; n++) {
            same("addModule to " + n, n, plain(n).addModule(0, 0));
        }
        noState("addModule to 8", () -> plain(8).addModule(0, 0));
        noState("addModule to 8", () -> plain(8).addModule(3, 3));
    }

    private static void layRefusedForModules() {
        sentence("lay: Throws IndexOutOfBoundsException if there is no such module");
        noIndex("no modules", () -> new RateWires().lay(0, 0, 1, 1, 1));
        for (int n = 1; n <= 8; n++) {
            int modules = n;
            indexes("from one of " + n, 0, n - 1, a -> plain(modules).lay(a, 0, 1, 1, 1));
            indexes("to one of " + n, 0, n - 1, b -> plain(modules).lay(0, b, 1, 1, 1));
        }
    }

    private static void layRefusedForNumbers() {
        sentence("lay: Throws IllegalArgumentException if comes, used or marks is out of range");
        arguments("comes", 1, 6, comes -> plain(2).lay(1, 0, comes, 6, 0));
        arguments("used", 1, 6, used -> plain(2).lay(1, 0, 6, used, 0));
        arguments("marks", 0, 99, marks -> plain(2).lay(1, 0, 6, 6, marks));
    }

    private static void layRefusedForKinds() {
        sentence("lay: Throws IllegalStateException if a does not make the kind that b uses");
        RateWires x = loaded("Mm01m12m23m30");
        for (int a = 0; a < 4; a++) {
            for (int b = 0; b < 4; b++) {
                int from = a;
                int to = b;
                if (b == (a + 1) % 4) {
                    same("a kind that is used", x.about(1), x.lay(a, b, 1, 1, 5));
                } else {
                    noState("from " + a + " to " + b, () -> x.lay(from, to, 1, 1, 5));
                }
            }
        }
        same("wires", 4, x.about(1));
    }

    private static void layRefusedForFourteen() {
        sentence("lay: if there are 14 wires");
        RateWires x = loaded("Mm00m00" + "w011105".repeat(13));
        same("the fourteenth", 13, x.lay(1, 0, 1, 1, 5));
        noState("the fifteenth", () -> x.lay(1, 0, 1, 1, 5));
        noState("without marks", () -> x.lay(0, 1, 1, 1, 0));
        x.cut(13);
        same("the fourteenth again", 13, x.lay(0, 1, 6, 6, 0));
        noState("the fifteenth again", () -> x.lay(0, 1, 6, 6, 0));
    }

    private static void layRefusedForDeadLoops() {
        sentence("lay: or if this wire would be of a dead loop (others do not matter)");
        RateWires x = plain(4);
        noState("to itself without marks", () -> x.lay(0, 0, 1, 1, 0));
        same("to itself with one", 0, x.lay(0, 0, 1, 1, 1));
        same("between loops, of none", 1, x.lay(0, 1, 1, 1, 0));
        same("beside a loop", 2, x.lay(0, 1, 1, 1, 0));
        same("back with one", 3, x.lay(1, 0, 1, 1, 1));
        noState("back without", () -> x.lay(1, 0, 1, 1, 0));
        same("from a loop", 4, x.lay(1, 2, 1, 1, 0));
        noState("a longer dead one", () -> x.lay(2, 0, 1, 1, 0));
        same("its last wire has one", 5, x.lay(2, 0, 1, 1, 1));
        same("a way from 2 to 3", 6, x.lay(2, 3, 1, 1, 9));
        same("that has marks closes no dead one", 7, x.lay(3, 2, 1, 1, 0));
        same("nor does a wire to a loop of which it is none", 8, x.lay(3, 0, 1, 1, 0));
        noState("of two loops one is dead", () -> x.lay(2, 3, 1, 1, 0));
        same("wires", 9, x.about(1));
    }

    private static void cutRefused() {
        sentence("cut: Throws IndexOutOfBoundsException if there is no such wire");
        noIndex("no wires", () -> plain(8).cut(0));
        for (int n = 1; n <= 14; n++) {
            String text = "Mm00" + "w001105".repeat(n);
            indexes("one of " + n, 0, n - 1, w -> loaded(text).cut(w));
        }
        RateWires x = loaded("Mm00w001105");
        x.cut(0);
        noIndex("the one that was cut", () -> x.cut(0));
    }

    private static void cutMarks() {
        sentence("Cuts a wire; its marks are gone. Returns the marks that it held");
        RateWires x = loaded("Mm00m00w016100w016199w016199");
        for (int i = 0; i < 150; i++) {
            x.work(0);
        }
        same("marks", 900 + 999 + 999, x.about(2));
        same("all that a wire can hold", 999, x.cut(2));
        same("the others stay", 900 + 999, x.about(2));
        same("0 marks were at first", 900, x.cut(0));
        same("marks of one", 999, x.about(2));
        x.put(0, 0);
        same("none", 0, x.cut(0));
        same("no wires hold none", 0, x.about(2));
        x.lay(0, 1, 1, 1, 0);
        same("a new one holds none of them", 0, x.wire(0, 4));
        same("works stay", 150, x.about(3));
    }

    // ---- 13

    private static void putRefusedForWires() {
        sentence("put: Throws IndexOutOfBoundsException if there is no such wire");
        noIndex("no wires", () -> plain(2).put(0, 0));
        for (int n : new int[] {1, 2, 13, 14}) {
            String text = "Mm00" + "w001105".repeat(n);
            indexes("one of " + n, 0, n - 1, w -> loaded(text).put(w, 5));
        }
    }

    private static void putRefusedForMarks() {
        sentence("put: Throws IllegalArgumentException if marks is out of range");
        arguments("marks", 0, 99, marks -> loaded("Mm00m00w011105").put(0, marks));
        RateWires x = loaded("Mm00m00w016199");
        x.work(0);
        same("105 is held", 105, x.wire(0, 4));
        noArgument("but cannot be put", () -> x.put(0, 105));
        noArgument("nor can 100", () -> x.put(0, 100));
        same("99 can", 105, x.put(0, 99));
    }

    private static void putHeld() {
        sentence("Puts marks onto a wire, or takes marks from it. Returns how many it held");
        RateWires x = loaded("Mm00m00w016100w011107");
        int held = 0;
        for (int marks : new int[] {1, 0, 0, 99, 99, 98, 50, 99, 0}) {
            same("put " + marks, held, x.put(0, marks));
            same("then it holds", marks, x.wire(0, 4));
            same("the other one as before", 7, x.wire(1, 4));
            held = marks;
        }
        x.put(0, 99);
        for (int i = 0; i < 150; i++) {
            x.work(0);
        }
        same("all that it can hold", 999, x.put(0, 1));
        same("then it holds 1", 1, x.put(0, 0));
        same("no works are taken back", 150, x.about(3));
    }

    private static void putOnDeadLoops() {
        sentence("put: Throws IllegalStateException if it would be on a dead loop then");
        RateWires x = loaded("Mm00m00m00w001101w011100w121105w201106w021100w101107");
        noState("a loop of one", () -> x.put(0, 0));
        same("1 may be on it", 1, x.put(0, 1));
        same("a wire of a loop with other marks", 5, x.put(2, 0));
        noState("the last marks of 0, 1, 2 and of 0, 2", () -> x.put(3, 0));
        noState("the last marks of 0, 1", () -> x.put(5, 0));
        same("again none", 0, x.put(2, 0));
        same("again none", 0, x.put(1, 0));
        x.put(1, 2);
        noState("one of its two loops would be dead", () -> x.put(3, 0));
        x.put(4, 3);
        same("now none would be", 6, x.put(3, 0));
        same("nor here", 7, x.put(5, 0));
        noState("but now", () -> x.put(1, 0));
        noState("and here", () -> x.put(4, 0));
        x.cut(3);
        same("a wire of no loop", 3, x.put(3, 0));
        RateWires y = loaded("Mm00m00w011109");
        same("the only wire", 9, y.put(0, 0));
    }

    // ---- 14 and 15

    private static void workRefusedForModules() {
        sentence("work: Throws IndexOutOfBoundsException if there is no such module");
        noIndex("no modules", () -> new RateWires().work(0));
        for (int n = 1; n <= 8; n++) {
            int modules = n;
            indexes("one of " + n, 0, n - 1, m -> plain(modules).work(m));
        }
    }

    private static void workRefusedForMarks() {
        sentence("work: Throws IllegalStateException if it cannot work");
        RateWires x = loaded("Mm00m00w011304");
        same("4 marks", 1, x.work(1));
        noState("1 mark", () -> x.work(1));
        x.put(0, 2);
        noState("2 marks", () -> x.work(1));
        x.put(0, 3);
        same("3 marks", 0, x.work(1));
        noState("0 marks", () -> x.work(1));
        same("works", 2, x.module(1, 2));
    }

    private static void workMarks() {
        sentence("Returns the marks on all wires together then");
        same("no wires", 0, loaded("Mm00").work(0));
        same("the last marks are used", 0, loaded("Mm00m00w011606").work(1));
        RateWires x = loaded("Mm00m00" + "w016199".repeat(14));
        int marks = 14 * 99;
        for (int i = 1; i <= 150; i++) {
            same("marks", marks + 14 * 6 * i, x.work(0));
        }
        same("all that 14 wires can hold", 14 * 999, x.about(2));
        noState("no more", () -> x.work(0));
        same("one less on each", 14 * 998, x.work(1));
    }

    private static void roundRefusedForRules() {
        sentence("round: Throws IllegalArgumentException if rule is out of range");
        arguments("no modules", 0, 2, rule -> new RateWires().round(rule));
        arguments("two modules", 0, 2, rule -> loaded("Mm00m00w012305").round(rule));
    }

    private static void roundRefusedForRates() {
        sentence("round: Throws IllegalStateException if the rates do not agree");
        for (int rule = 0; rule <= 2; rule++) {
            int r = rule;
            RateWires x = loaded("Mm00m00w011199w011299");
            noState("two rates", () -> x.round(r));
            same("no works", 0, x.about(3));
            x.cut(0);
            same("one rate", 3, x.round(r));
            RateWires y = loaded("Mm00m00m00m00w014100w124100w234100");
            noState("64 works", () -> y.round(r));
            y.cut(2);
            y.lay(2, 3, 3, 1, 0);
            same("48 works", 1 + 4 + 16 + 48, y.round(r));
        }
    }

    private static void roundRefusedForSticking() {
        sentence("round: or the round would stick");
        for (int rule = 0; rule <= 2; rule++) {
            int r = rule;
            RateWires x = loaded("Mm00m00m00w011600w121100w206105");
            String before = told(x);
            noState("behind 5 works", () -> x.round(r));
            unchanged("a round that would stick", x, before);
            noState("which is no action", x::undo);
            x.put(2, 6);
            same("with one mark more", 8, x.round(r));
            same("the marks are as before", 6, x.about(2));
            same("works of 0", 6, x.module(0, 2));
        }
    }

    private static void roundWorks() {
        sentence("Returns how many works there are in it");
        for (int rule = 0; rule <= 2; rule++) {
            same("of no modules", 0, new RateWires().round(rule));
            for (int n = 1; n <= 8; n++) {
                same("of " + n, n, plain(n).round(rule));
            }
            RateWires x = loaded("Mm00m00m00w015600w125600");
            same("36, 30 and 25", 91, x.round(rule));
            same("the next", 91, x.round(rule));
            same("works so far", 182, x.about(3));
            same("works of 0", 72, x.module(0, 2));
            same("works of 2", 50, x.module(2, 2));
        }
    }

    // ---- actions and undo

    private static void isAction(String what, ToLongFunction<RateWires> call) {
        RateWires x = loaded("Mm00m00w012305w103208");
        String before = told(x);
        call.applyAsLong(x);
        same(what + " is remembered once", 0, x.undo());
        unchanged(what + " and undo", x, before);
        noState(what + " is remembered only once", x::undo);
    }

    private static void whatIsAnAction() {
        sentence("Each call of one of them that does not throw an exception is an action");
        isAction("addModule", x -> x.addModule(1, 2));
        isAction("lay", x -> x.lay(0, 0, 2, 1, 3));
        isAction("cut", x -> x.cut(0));
        isAction("put", x -> x.put(1, 77));
        isAction("work", x -> x.work(0));
        isAction("round", x -> x.round(2));
    }

    private static void alsoIfNothingBecomesDifferent() {
        sentence("also if nothing becomes different");
        isAction("put of as many", x -> x.put(0, 5));
        RateWires x = loaded("Mm00w001101");
        for (int i = 0; i < 3; i++) {
            x.put(0, 1);
        }
        same("three times the same", 2, x.undo());
        same("again", 1, x.undo());
        same("again", 0, x.undo());
        noState("no more", x::undo);
        RateWires y = new RateWires();
        y.round(0);
        y.round(1);
        same("rounds of no modules", 1, y.undo());
        same("again", 0, y.undo());
        noState("no more", y::undo);
    }

    private static void fourteenStates() {
        sentence("At most 14 states are remembered");
        for (int n = 0; n <= 45; n++) {
            RateWires x = loaded("Mm00m00w011100");
            for (int i = 1; i <= n; i++) {
                x.put(0, i);
            }
            int left = Math.min(n, 14);
            for (int back = 1; back <= Math.min(n, 14); back++) {
                left--;
                same("undo " + back + " of " + n, left, x.undo());
                same("marks behind it", n - back, x.wire(0, 4));
            }
            noState("no more of " + n, x::undo);
            same("the state stays", n - Math.min(n, 14), x.wire(0, 4));
        }
    }

    private static void oldestForgotten() {
        sentence("when one more is remembered, the oldest one is forgotten");
        RateWires x = loaded("Mm00m00w011100");
        List<Integer> remembered = new ArrayList<>();
        int now = 0;
        for (int step = 1; step <= 90; step++) {
            if (step % 5 == 0 || step % 31 > 20 && !remembered.isEmpty()) {
                int back = remembered.remove(remembered.size() - 1);
                same("undo in step " + step, remembered.size(), x.undo());
                now = back;
            } else {
                x.put(0, step);
                remembered.add(now);
                now = step;
                if (remembered.size() > 14) {
                    remembered.remove(0);
                }
            }
            same("marks behind step " + step, now, x.wire(0, 4));
        }
        for (int i = remembered.size() - 1; i >= 0; i--) {
            same("undo", i, x.undo());
            same("marks", remembered.get(i), x.wire(0, 4));
        }
        noState("no more", x::undo);
    }

    private static void undoTakesBackTheLast() {
        sentence("Takes back the last action that is remembered. Returns how many states are still remembered");
        RateWires x = new RateWires();
        List<String> states = new ArrayList<>();
        List<ToLongFunction<RateWires>> actions = List.of(y -> y.addModule(0, 1), y -> y.addModule(1, 0), y -> y.lay(0, 1, 2, 3, 4),
                y -> y.work(0), y -> y.lay(1, 0, 3, 2, 99), y -> y.round(1), y -> y.put(0, 0), y -> y.work(0), y -> y.cut(0), y -> y.addModule(2, 2),
                y -> y.work(2), y -> y.work(2), y -> y.cut(0), y -> y.round(0));
        for (ToLongFunction<RateWires> action : actions) {
            states.add(told(x));
            action.applyAsLong(x);
        }
        for (int left = 13; left >= 0; left--) {
            same("left", left, x.undo());
            unchanged("action " + left + " and undo", x, states.get(left));
        }
        noState("no more", x::undo);
    }

    private static void undoIsNone() {
        sentence("(undo is none)");
        RateWires x = loaded("Mm00w001101");
        x.put(0, 2);
        x.put(0, 3);
        same("the last one", 1, x.undo());
        same("undo is not taken back, but the one before it", 0, x.undo());
        same("marks", 1, x.wire(0, 4));
        noState("no more", x::undo);
        x.put(0, 4);
        same("only what came behind it", 0, x.undo());
        same("marks", 1, x.wire(0, 4));
    }

    private static void undoRefused() {
        sentence("undo: Throws IllegalStateException if none is remembered");
        RateWires x = new RateWires();
        noState("a new object", x::undo);
        x.addModule(0, 0);
        x.undo();
        noState("one action that is taken back", x::undo);
        same("the state stays", 0, x.about(0));
        noIndex("a call that throws", () -> x.work(0));
        noState("is not remembered", x::undo);
        x.addModule(0, 0);
        same("but one that does not is", 0, x.undo());
    }

    private static void loadAndRestoreAreNone() {
        sentence("load and restore are not actions");
        RateWires x = loaded("Mm00w001105");
        noState("load", x::undo);
        x.save(0);
        noState("save", x::undo);
        x.put(0, 6);
        x.restore(0);
        noState("restore", x::undo);
        x.restore(0);
        noState("restore again", x::undo);
        x.load();
        noState("load again", x::undo);
    }

    private static void textAndSlotsAreNotOfTheState() {
        sentence("the state, which consists of everything but the text and the save slots");
        RateWires x = loaded("Mm00w001105");
        x.put(0, 6);
        x.append('x');
        x.save(0);
        x.put(0, 7);
        x.append('y');
        x.save(1);
        same("undo", 1, x.undo());
        same("undo", 0, x.undo());
        same("the text is not undone", 11, x.errorPosition());
        x.restore(1);
        same("the slot 1 is not undone", 7, x.wire(0, 4));
        x.restore(0);
        same("the slot 0 is not undone", 6, x.wire(0, 4));
        same("the text is not saved", 13, x.clearText());
    }

    // ---- 25 and 26

    private static void saveRefused() {
        sentence("save: Throws IndexOutOfBoundsException if there is no such save slot");
        indexes("of a new object", 0, 1, slot -> new RateWires().save(slot));
        RateWires x = loaded("Mm00w001105");
        indexes("of a plan", 0, 1, x::save);
    }

    private static void saveWires() {
        sentence("save: Returns the number of wires");
        for (int slot = 0; slot <= 1; slot++) {
            same("of a new object", 0, new RateWires().save(slot));
            RateWires x = plain(3);
            same("none", 0, x.save(slot));
            for (int n = 1; n <= 14; n++) {
                x.lay(0, 1, 1, 1, 1);
                same("some", n, x.save(slot));
            }
            x.cut(0);
            same("one less", 13, x.save(slot));
        }
    }

    private static void saveStores() {
        sentence("Stores the present state in a save slot");
        RateWires x = loaded("Mm01m10w012307w103200f1");
        String first = told(x);
        x.save(1);
        x.cut(0);
        x.work(0);
        x.addModule(3, 2);
        String second = told(x);
        x.save(0);
        same("saving is no action, and forgets none", 2, x.undo());
        x.restore(1);
        unchanged("the slot 1", x, first);
        x.restore(0);
        unchanged("the slot 0", x, second);
        x.save(1);
        x.restore(1);
        unchanged("the slot 1 anew", x, second);
        RateWires y = new RateWires();
        y.save(0);
        y.addModule(0, 0);
        same("a state without modules is one too", 0, y.restore(0));
        same("modules", 0, y.about(0));
    }

    private static void restoreRefusedForSlots() {
        sentence("restore: Throws IndexOutOfBoundsException if there is no such save slot");
        RateWires x = loaded("Mm00w001105");
        x.save(0);
        x.save(1);
        indexes("both are saved", 0, 1, x::restore);
        noIndex("none is saved", () -> new RateWires().restore(2));
        noIndex("none is saved", () -> new RateWires().restore(-1));
    }

    private static void restoreRefusedForNothing() {
        sentence("restore: Throws IllegalStateException if nothing has been saved in it since the last load");
        for (int slot = 0; slot <= 1; slot++) {
            int one = slot;
            int other = 1 - slot;
            RateWires x = loaded("Mm00w001105");
            noState("nothing yet", () -> x.restore(one));
            x.save(other);
            noState("only in the other one", () -> x.restore(one));
            same("that one", 1, x.restore(other));
            x.save(one);
            same("in both", 1, x.restore(one));
            x.append('?');
            noState("a load that throws", x::load);
            same("empties none", 1, x.restore(one));
            type(x, "M");
            x.load();
            noState("behind a load", () -> x.restore(one));
            noState("both are empty", () -> x.restore(other));
            x.save(one);
            same("saved since then", 0, x.restore(one));
            noState("not in the other one", () -> x.restore(other));
        }
    }

    private static void restoreReplaces() {
        sentence("Replaces the state by the one in a save slot, and forgets all remembered states. Returns the number of wires then");
        RateWires x = plain(2);
        x.save(0);
        for (int w = 0; w < 14; w++) {
            x.lay(0, 1, 1, 1, w);
        }
        String full = told(x);
        x.save(1);
        same("14 are remembered", 13, x.undo());
        same("none", 0, x.restore(0));
        same("wires", 0, x.about(1));
        noState("nothing is remembered", x::undo);
        same("all", 14, x.restore(1));
        unchanged("what was saved", x, full);
        noState("nothing is remembered", x::undo);
        x.work(0);
        same("undo goes back to what is restored", 0, x.undo());
        unchanged("undo", x, full);
    }

    private static void restoreKeeps() {
        sentence("The save slot keeps it");
        RateWires x = loaded("Mm00w001105");
        String before = told(x);
        x.save(0);
        for (int i = 0; i < 3; i++) {
            x.put(0, 50 + i);
            x.work(0);
            x.addModule(1, 1);
            same("again", 1, x.restore(0));
            unchanged("what came between", x, before);
        }
    }
}
