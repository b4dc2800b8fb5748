import static java.lang.Integer.MAX_VALUE;
import static java.lang.Integer.MIN_VALUE;

/** Each promise of the document by itself: ordinary inputs, the edges that it names, wrong inputs. */
final class PromiseTest extends PlanCases {
    private PromiseTest() {
    }

    public static void main(String[] args) {
        newObject();
        append();
        clearText();
        errorPosition();
        load();
        about();
        aboutRates();
        aboutReadyAndLoops();
        module();
        wire();
        between();
        addModule();
        lay();
        layDeadLoops();
        cut();
        put();
        work();
        workAtTheLimit();
        round();
        undo();
        undoTakesBackAll();
        order();
        sticks();
        holds();
        bestRule();
        fewest();
        agrees();
        runScript();
        runScriptGroups();
        simulate();
        save();
        restore();
        askingChangesNothing();
        Checks.end("PromiseTest");
    }

    // ---- 1 to 5

    private static void newObject() {
        RateWires x = new RateWires();
        for (int what = 0; what <= 8; what++) {
            same("about " + what + " of a new object", what == 4 ? 1 : 0, x.about(what));
        }
        same("the text of a new object", 0, x.clearText());
        noState("nothing is remembered", x::undo);
        noState("nothing is saved in 0", () -> x.restore(0));
        noState("nothing is saved in 1", () -> x.restore(1));
        RateWires y = new RateWires();
        y.addModule(0, 0);
        same("objects have nothing in common", 0, x.about(0));
    }

    private static void append() {
        RateWires x = new RateWires();
        noArgument("append(-1)", () -> x.append(-1));
        noArgument("append(256)", () -> x.append(256));
        noArgument("append(MIN)", () -> x.append(MIN_VALUE));
        noArgument("append(MAX)", () -> x.append(MAX_VALUE));
        same("a text is not longer behind exceptions", 1, x.append(0));
        for (int n = 2; n <= 119; n++) {
            same("append", n, x.append(255));
        }
        same("the last one that fits", 120, x.append(77));
        noState("one more", () -> x.append(77));
        noArgument("the range comes first", () -> x.append(256));
        same("the text is as it was", 120, x.clearText());
    }

    private static void clearText() {
        RateWires x = new RateWires();
        same("clearText when empty", 0, x.clearText());
        x.append(77);
        x.append(78);
        same("clearText", 2, x.clearText());
        same("clearText again", 0, x.clearText());
        same("append behind it", 1, x.append(77));
        same("the old characters are gone", NONE, x.errorPosition());
        x.addModule(0, 0);
        x.clearText();
        same("the state stays", 1, x.about(0));
        x.undo();
        noState("it is no action", x::undo);
    }

    private static void errorPosition() {
        same("empty", 0, errorIn(""));
        same("M", NONE, errorIn("M"));
        String[] plans = {"Mm00", "Mm33", "Mw001100", "Mw776699", "Mc00", "Mc09", "Mc10", "Mc13", "Mf0", "Mf7",
            "Mm01w016509c00f7"};
        for (String s : plans) {
            same(s, NONE, errorIn(s));
            for (int n = 0; n < s.length(); n++) {
                String part = s.substring(0, n);
                boolean whole = n > 0 && (n == 1 || "mwcf".indexOf(s.charAt(n)) >= 0);
                same(part, whole ? NONE : n, errorIn(part));
            }
        }
        String[] wrongAtTheEnd = {"m", "N", "\u0000", "M ", "MM", "M0", "Mx", "M\u00ff", "Mm4", "Mm/", "Mm:", "Mm04",
            "Mm0 ", "Mm00 ", "Mm00M", "Mw8", "Mw08", "Mw000", "Mw007", "Mw0010", "Mw0017", "Mw0011:", "Mw00110:",
            "Mw00110/", "Mc2", "Mc9", "Mc0:", "Mc0m", "Mc14", "Mc19", "Mf8", "Mf9", "Mfm", "Mf7c10x"};
        for (String s : wrongAtTheEnd) {
            same(s, s.length() - 1, errorIn(s));
            same("more behind " + s, s.length() - 1, errorIn(s + "0"));
        }
        RateWires x = new RateWires();
        type(x, "M" + "m00".repeat(38) + "f0");
        same("117 characters", NONE, x.errorPosition());
        x.append('c');
        x.append('1');
        same("119 characters", 119, x.errorPosition());
        x.append('3');
        same("120 characters", NONE, x.errorPosition());
        same("30 modules and the wire 13 are left out", 31, x.load());
    }

    private static void load() {
        RateWires x = new RateWires();
        noState("load of an empty text", x::load);
        x.addModule(1, 2);
        x.save(0);
        x.save(1);
        type(x, "Mm0");
        noState("load of half a command", x::load);
        same("a load that throws changes nothing", 2, x.module(0, 1));
        same("not the slots", 0, x.restore(0));
        x.addModule(0, 0);
        x.addModule(0, 0);
        type(x, "Mm01m10w014205w101100w106511f0f0f0c02c01w007777");
        noState("a rate of 7", x::load);
        same("nor what is remembered", 1, x.undo());
        String plan = "Mm01m10w014205w101100w106511f0f0f0c02c01f1w001111";
        type(x, plan);
        same("left out: f0 without marks three times, w00 for its kinds", 4, x.load());
        same("modules", 2, x.about(0));
        same("wires", 1, x.about(1));
        same("marks", 3, x.wire(0, 4));
        same("works", 1, x.about(3));
        noState("nothing is remembered", x::undo);
        noState("the slot 0 is empty", () -> x.restore(0));
        noState("the slot 1 is empty", () -> x.restore(1));
        same("the text is kept", plan.length(), x.clearText());
        noState("load again, of nothing", x::load);
        same("the state is kept", 2, x.about(0));
        type(x, "M");
        same("load of M", 0, x.load());
        same("no modules", 0, x.about(0));
        same("no wires", 0, x.about(1));
        same("no works", 0, x.about(3));
        x.addModule(0, 1);
        same("none of a new module", 0, x.module(0, 2));
        loadWhatIsLeftOut();
    }

    private static void loadWhatIsLeftOut() {
        RateWires x = new RateWires();
        type(x, "Mf0c00w001100m00w001100w001101w001100m00m00m00m00m00m00m00m00f7w701100w071199");
        same("each kind of command is left out", 6, x.load());
        same("modules", 8, x.about(0));
        same("wires", 3, x.about(1));
        same("the marks are of two digits", 99, x.wire(2, 4));
        same("the works of the last module", 1, x.module(7, 2));
    }

    // ---- 6 to 9

    private static void about() {
        RateWires x = loaded("Mm01m12m20w012307w121100m33f0");
        int[] due = {4, 2, 9, 1, 1, 2, 3 + 2 + 2 + 1, 1 + 2 + 8, 0};
        for (int what = 0; what <= 8; what++) {
            same("about " + what, due[what], x.about(what));
        }
        noArgument("about(-1)", () -> x.about(-1));
        noArgument("about(9)", () -> x.about(9));
        noArgument("about(MIN)", () -> x.about(MIN_VALUE));
        noArgument("about(MAX)", () -> x.about(MAX_VALUE));
        x.lay(2, 0, 1, 1, 5);
        same("rates that do not agree", 0, x.about(4));
        same("so there is no round", NONE, x.about(6));
        same("parts by wires in whatever direction", 2, x.about(5));
    }

    private static void aboutRates() {
        RateWires x = loaded("Mm00m00m00m00");
        x.lay(0, 1, 6, 4, 0);
        same("the smallest works", 2 + 3 + 1 + 1, x.about(6));
        x.lay(2, 1, 1, 6, 0);
        same("against the direction of a wire", 2 + 3 + 18 + 1, x.about(6));
        x.cut(1);
        x.lay(1, 2, 4, 1, 0);
        x.lay(2, 3, 5, 1, 0);
        same("60 is told", 60, x.module(3, 3));
        same("and agrees", 1, x.about(4));
        same("with all", 2 + 3 + 12 + 60, x.about(6));
        x.cut(2);
        x.lay(2, 3, 6, 1, 0);
        same("72 is not told", NONE, x.module(3, 3));
        same("and what others do neither", NONE, x.module(0, 3));
        same("and does not agree", 0, x.about(4));
        x.cut(2);
        x.lay(3, 3, 2, 3, 50);
        same("a wire from a module to itself does not agree", 0, x.about(4));
        x.cut(2);
        x.lay(3, 3, 2, 2, 50);
        same("but with the same rates", 1, x.about(4));
        chainOfRates();
    }

    private static void chainOfRates() {
        RateWires x = loaded("Mm00m00m00m00m00m00m00m00");
        for (int m = 6; m >= 0; m--) {
            x.lay(m, m + 1, m % 2 == 0 ? 6 : 1, m % 2 == 0 ? 1 : 6, 0);
        }
        same("1 and 6 in turns", 4 * 1 + 4 * 6, x.about(6));
        same("one part", 1, x.about(5));
        x.lay(7, 0, 1, 6, 99);
        same("a loop that agrees", 28, x.about(6));
        x.cut(7);
        x.cut(1);
        same("two parts", 2, x.about(5));
        x.lay(5, 6, 5, 1, 0);
        same("30 and 180", NONE, x.about(6));
        x.cut(0);
        same("30 without the last one", 1 + 6 + 1 + 6 + 1 + 6 + 30 + 1, x.about(6));
        same("the last one is a part by itself", 2, x.about(5));
    }

    private static void aboutReadyAndLoops() {
        RateWires x = loaded("Mm00m00m00m00w012302w012303w121101");
        same("one wire holds too few", 1 + 4 + 8, x.about(7));
        x.put(0, 3);
        same("now both hold enough", 15, x.about(7));
        same("no loops", 0, x.about(8));
        x.lay(3, 3, 1, 2, 1);
        same("a loop of one wire", 8, x.about(8));
        same("that holds too few", 7, x.about(7));
        x.lay(2, 1, 1, 1, 0);
        same("a loop of two", 2 + 4 + 8, x.about(8));
        x.lay(0, 3, 1, 1, 0);
        x.lay(1, 3, 1, 1, 0);
        same("wires to loops are of none", 2 + 4 + 8, x.about(8));
        x.lay(3, 0, 1, 1, 1);
        same("0, 1 and 3 too", 15, x.about(8));
    }

    private static void module() {
        RateWires x = loaded("Mm12m23m33w012300w012307w221101w121100f0f0f1");
        int[][] due = {{1, 2, 2, 3, 0, 2}, {2, 3, 1, 2, 2, 1}, {3, 3, 0, 2, 2, 1}};
        for (int m = 0; m < 3; m++) {
            for (int what = 0; what <= 5; what++) {
                same("module(" + m + ", " + what + ")", due[m][what], x.module(m, what));
            }
        }
        noIndex("module(3, 0)", () -> x.module(3, 0));
        noIndex("module(-1, 0)", () -> x.module(-1, 0));
        noIndex("the module comes first", () -> x.module(MAX_VALUE, 6));
        noArgument("module(0, -1)", () -> x.module(0, -1));
        noArgument("module(2, 6)", () -> x.module(2, 6));
    }

    private static void wire() {
        RateWires x = loaded("Mm01m12w014389w012102");
        int[][] due = {{0, 1, 4, 3, 89}, {0, 1, 2, 1, 2}};
        for (int w = 0; w < 2; w++) {
            for (int what = 0; what <= 4; what++) {
                same("wire(" + w + ", " + what + ")", due[w][what], x.wire(w, what));
            }
        }
        noIndex("wire(2, 0)", () -> x.wire(2, 0));
        noIndex("wire(-1, 0)", () -> x.wire(-1, 0));
        noIndex("the wire comes first", () -> x.wire(MIN_VALUE, 5));
        noArgument("wire(0, -1)", () -> x.wire(0, -1));
        noArgument("wire(1, 5)", () -> x.wire(1, 5));
    }

    private static void between() {
        RateWires x = loaded("Mm00m00m00m00w011109w011108w121105w021120w101102w331103");
        same("the wire that holds fewer", 8, x.between(0, 1));
        same("a way of two is shorter", 13, x.between(0, 2));
        same("back", 2, x.between(1, 0));
        same("to itself takes a loop", 10, x.between(0, 0));
        same("of the other too", 10, x.between(1, 1));
        same("no loop", NONE, x.between(2, 2));
        same("no way", NONE, x.between(2, 0));
        same("a loop of one wire", 3, x.between(3, 3));
        same("another part", NONE, x.between(0, 3));
        noIndex("between(4, 0)", () -> x.between(4, 0));
        noIndex("between(0, 4)", () -> x.between(0, 4));
        noIndex("between(-1, 0)", () -> x.between(-1, 0));
        noIndex("between(0, -1)", () -> x.between(0, -1));
        RateWires y = new RateWires();
        for (int m = 0; m < 8; m++) {
            y.addModule(0, 0);
        }
        for (int m = 7; m >= 0; m--) {
            y.lay(m, (m + 1) % 8, 1, 1, m + 1);
        }
        same("a way of seven wires", 28, y.between(0, 7));
        same("a loop of eight", 36, y.between(3, 3));
        same("a way of seven around", 36 - 4, y.between(4, 3));
    }

    // ---- 10 to 16

    private static void addModule() {
        RateWires x = new RateWires();
        noArgument("addModule(-1, 0)", () -> x.addModule(-1, 0));
        noArgument("addModule(0, -1)", () -> x.addModule(0, -1));
        noArgument("addModule(4, 0)", () -> x.addModule(4, 0));
        noArgument("addModule(0, 4)", () -> x.addModule(0, 4));
        noState("none of them is an action", x::undo);
        for (int m = 0; m < 8; m++) {
            same("addModule", m, x.addModule(m % 4, 3 - m / 2));
        }
        same("uses", 2, x.module(6, 0));
        same("makes", 0, x.module(6, 1));
        noState("a ninth", () -> x.addModule(0, 0));
        noArgument("the range comes first", () -> x.addModule(4, 0));
        x.work(7);
        for (int i = 0; i < 3; i++) {
            x.undo();
        }
        same("a module anew", 6, x.addModule(0, 0));
        same("and one more", 7, x.addModule(0, 0));
        same("which has not worked", 0, x.module(7, 2));
    }

    private static void lay() {
        RateWires x = loaded("Mm01m10m11");
        noIndex("lay from 3", () -> x.lay(3, 0, 1, 1, 0));
        noIndex("lay to 3", () -> x.lay(0, 3, 1, 1, 0));
        noIndex("lay from -1, rates wrong too", () -> x.lay(-1, 0, 0, 0, -1));
        noIndex("lay to -1", () -> x.lay(0, -1, 1, 1, 0));
        noArgument("comes 0", () -> x.lay(0, 1, 0, 1, 0));
        noArgument("comes 7", () -> x.lay(0, 1, 7, 1, 0));
        noArgument("used 0", () -> x.lay(0, 1, 1, 0, 0));
        noArgument("used 7", () -> x.lay(0, 1, 1, 7, 0));
        noArgument("marks -1", () -> x.lay(0, 1, 1, 1, -1));
        noArgument("marks 100", () -> x.lay(0, 1, 1, 1, 100));
        noArgument("the range comes before the kinds", () -> x.lay(0, 0, 7, 1, 0));
        noState("kinds that differ", () -> x.lay(0, 0, 1, 1, 5));
        noState("kinds the wrong way round", () -> x.lay(1, 2, 1, 1, 5));
        noState("none of them is an action", x::undo);
        same("the first wire", 0, x.lay(0, 1, 6, 6, 99));
        same("the second one, between the same modules", 1, x.lay(0, 1, 1, 2, 0));
        same("its rate", 2, x.wire(1, 3));
        for (int w = 2; w < 14; w++) {
            same("lay", w, x.lay(0, 2, 1, 1, w));
        }
        noState("a fifteenth wire", () -> x.lay(0, 2, 1, 1, 1));
        noIndex("the module comes first", () -> x.lay(0, 3, 1, 1, 1));
        noArgument("then the range", () -> x.lay(0, 2, 1, 1, 100));
        same("wires", 14, x.about(1));
    }

    private static void layDeadLoops() {
        RateWires x = loaded("Mm00m00m00m00");
        noState("a wire without marks to itself", () -> x.lay(0, 0, 1, 1, 0));
        same("with marks", 0, x.lay(0, 0, 1, 1, 1));
        noState("a second one without", () -> x.lay(0, 0, 1, 1, 0));
        x.lay(0, 1, 1, 1, 0);
        x.lay(1, 2, 1, 1, 0);
        noState("a dead loop of three", () -> x.lay(2, 0, 1, 1, 0));
        noState("of two", () -> x.lay(2, 1, 1, 1, 0));
        same("with one mark", 3, x.lay(2, 0, 1, 1, 1));
        same("a loop with marks elsewhere", 4, x.lay(3, 0, 1, 1, 0));
        same("only that of marks matters", 5, x.lay(2, 3, 1, 1, 1));
        noState("not the wires between", () -> x.lay(2, 3, 1, 1, 0));
    }

    private static void cut() {
        RateWires x = loaded("Mm00m00m00w011107w121208w201309");
        noIndex("cut(3)", () -> x.cut(3));
        noIndex("cut(-1)", () -> x.cut(-1));
        noIndex("cut(MAX)", () -> x.cut(MAX_VALUE));
        noState("none of them is an action", x::undo);
        same("cut", 8, x.cut(1));
        same("wires", 2, x.about(1));
        same("marks", 16, x.about(2));
        int[] due = {2, 0, 1, 3, 9};
        for (int what = 0; what <= 4; what++) {
            same("the one behind it moves up, " + what, due[what], x.wire(1, what));
        }
        same("the one before it stays", 7, x.wire(0, 4));
        noIndex("wire(2)", () -> x.wire(2, 0));
        same("the last one", 9, x.cut(1));
        same("the only one", 7, x.cut(0));
        noIndex("none is left", () -> x.cut(0));
        same("a new one", 0, x.lay(0, 1, 1, 1, 0));
    }

    private static void put() {
        RateWires x = loaded("Mm00m00m00w011107w121100w201100w001105");
        noIndex("put on 4, marks wrong too", () -> x.put(4, 100));
        noIndex("put on -1", () -> x.put(-1, 1));
        noArgument("100 marks", () -> x.put(0, 100));
        noArgument("-1 marks", () -> x.put(0, -1));
        noState("a dead loop of three", () -> x.put(0, 0));
        noState("of one", () -> x.put(3, 0));
        noState("none of them is an action", x::undo);
        same("put where none are", 0, x.put(1, 99));
        same("now it is none", 7, x.put(0, 0));
        same("to none again", 0, x.put(0, 0));
        noState("but not the last marks", () -> x.put(1, 0));
        same("the same marks", 99, x.put(1, 99));
        same("each of them is an action", 3, x.undo());
        same("marks on all", 99 + 5, x.about(2));
    }

    private static void work() {
        RateWires x = loaded("Mm00m00m00w012302w012509w112203w121600");
        noIndex("work(3)", () -> x.work(3));
        noIndex("work(-1)", () -> x.work(-1));
        noState("a wire holds too few", () -> x.work(1));
        noState("none of them is an action", x::undo);
        same("a work that makes marks", 18, x.work(0));
        same("on both wires", 4, x.wire(0, 4));
        same("of rate 2", 11, x.wire(1, 4));
        same("a work that uses marks", 18 - 3 - 5 + 1, x.work(1));
        same("used", 1, x.wire(0, 4));
        same("used", 6, x.wire(1, 4));
        same("used and made", 3, x.wire(2, 4));
        same("made", 1, x.wire(3, 4));
        same("works of 0", 1, x.module(0, 2));
        same("works of 1", 1, x.module(1, 2));
        same("works of all", 2, x.about(3));
        RateWires y = loaded("Mm00w001101");
        same("a wire to itself", 1, y.work(0));
        y.cut(0);
        y.lay(0, 0, 6, 2, 1);
        noState("marks come only behind those that are used", () -> y.work(0));
        same("without wires", 0, loaded("Mm00").work(0));
        RateWires z = loaded("Mm00m00w011203w101204");
        same("a loop that loses marks", 6, z.work(0));
        same("more", 5, z.work(1));
        same("more", 4, z.work(1));
        same("more", 3, z.work(0));
        same("what is left", 2, z.work(0));
        noState("too few for 0", () -> z.work(0));
        same("the marks stay", 2, z.about(2));
    }

    private static void workAtTheLimit() {
        RateWires x = loaded("Mm00m00w016199w001199");
        for (int i = 0; i < 150; i++) {
            x.work(0);
        }
        same("999 are on it", 999, x.wire(0, 4));
        noState("more would not be", () -> x.work(0));
        same("0 cannot work", 2, x.about(7));
        same("nothing has come", 999 + 99, x.about(2));
        same("nothing has been used", 99, x.wire(1, 4));
        same("no works", 150, x.about(3));
        x.work(1);
        noState("only 1 less", () -> x.work(0));
        for (int i = 0; i < 5; i++) {
            x.work(1);
        }
        same("6 less are enough", 999 + 99, x.work(0));
        RateWires y = loaded("Mm00w006299");
        for (int i = 0; i < 225; i++) {
            y.work(0);
        }
        same("a wire to itself is filled", 999, y.wire(0, 4));
        noState("what is used first does not help", () -> y.work(0));
    }

    private static void round() {
        RateWires x = loaded("Mm01m10w012300");
        noArgument("round(-1)", () -> x.round(-1));
        noArgument("round(3)", () -> x.round(3));
        noState("none of them is an action", x::undo);
        for (int rule = 0; rule <= 2; rule++) {
            same("round(" + rule + ")", 5, x.round(rule));
        }
        same("marks are as before", 0, x.about(2));
        same("works of 0", 9, x.module(0, 2));
        same("works of 1", 6, x.module(1, 2));
        same("each is one action", 2, x.undo());
        same("works behind undo", 6, x.module(0, 2));
        x.lay(1, 0, 3, 2, 1);
        for (int rule = 0; rule <= 2; rule++) {
            int r = rule;
            noState("a round that sticks by " + rule, () -> x.round(r));
        }
        noArgument("the range comes first", () -> x.round(3));
        x.put(1, 99);
        x.lay(0, 1, 1, 1, 5);
        noState("rates that do not agree", () -> x.round(0));
        noArgument("the range comes first", () -> x.round(-1));
        same("works so far", 10, x.about(3));
        RateWires y = new RateWires();
        same("a round of no modules", 0, y.round(0));
        same("is an action", 0, y.undo());
    }

    private static void undo() {
        RateWires x = new RateWires();
        noState("undo of nothing", x::undo);
        for (int i = 0; i < 20; i++) {
            x.round(0);
            if (i == 4) {
                x.addModule(0, 0);
            }
        }
        same("14 are remembered", 13, x.undo());
        for (int left = 12; left >= 0; left--) {
            same("undo", left, x.undo());
        }
        noState("no more", x::undo);
        same("the oldest ones are forgotten", 1, x.about(0));
        x.addModule(0, 0);
        same("behind that again", 0, x.undo());
        x.addModule(0, 0);
        x.lay(0, 1, 1, 1, 7);
        x.put(0, 7);
        same("also if nothing becomes different", 2, x.undo());
        same("so it is there", 7, x.wire(0, 4));
        x.undo();
        x.addModule(3, 3);
        same("a new action behind an undo", 1, x.undo());
        same("the one before it", 0, x.undo());
        RateWires y = loaded("Mm33");
        for (int i = 0; i < 40; i++) {
            y.put(y.lay(0, 0, 1, 1, i + 1), i + 2);
            y.cut(0);
        }
        same("the last of many", 13, y.undo());
        same("its wire", 41, y.wire(0, 4));
        same("its kinds", 3, y.module(0, 0));
    }

    private static void undoTakesBackAll() {
        RateWires x = loaded("Mm00m11w001105");
        String start = told(x);
        x.addModule(0, 0);
        x.lay(0, 2, 1, 2, 3);
        x.cut(0);
        x.put(0, 8);
        x.work(0);
        x.work(2);
        x.round(1);
        same("undo of round", 6, x.undo());
        same("works", 2, x.about(3));
        same("undo of work", 5, x.undo());
        same("its marks", 9, x.wire(0, 4));
        same("undo of work", 4, x.undo());
        same("its works", 0, x.about(3));
        same("undo of put", 3, x.undo());
        same("its marks", 3, x.wire(0, 4));
        same("undo of cut", 2, x.undo());
        same("its marks", 5, x.wire(0, 4));
        same("undo of lay", 1, x.undo());
        same("undo of addModule", 0, x.undo());
        unchanged("doing and undoing", x, start);
        type(x, "Mx");
        x.addModule(0, 0);
        x.save(1);
        x.undo();
        same("the text is not of the state", 1, x.errorPosition());
        x.restore(1);
        same("nor the slots", 3, x.about(0));
    }

    // ---- 17 to 22

    private static void order() {
        RateWires x = loaded("Mm00m00m00w012300w121200");
        orderIs("two wires", x, 0, "000112");
        orderIs("two wires", x, 1, "001012");
        orderIs("two wires", x, 2, "001012");
        RateWires y = loaded("Mm00m00m00m00");
        for (int rule = 0; rule <= 2; rule++) {
            orderIs("no wires", y, rule, "0123");
        }
        y.lay(3, 1, 1, 1, 0);
        for (int rule = 0; rule <= 2; rule++) {
            orderIs("1 behind 3", y, rule, "0231");
        }
        y.lay(2, 0, 1, 3, 0);
        orderIs("0 behind 2 three times", y, 0, "222031");
        noArgument("order(-1, 0)", () -> y.order(-1, 0));
        noArgument("order(3, 0)", () -> y.order(3, 0));
        noArgument("order(0, -1)", () -> y.order(0, -1));
        noArgument("order(0, MIN)", () -> y.order(0, MIN_VALUE));
        y.lay(3, 3, 1, 2, 9);
        orderIs("rates that do not agree", y, 0, "");
        orderIs("no modules", new RateWires(), 1, "");
        ordersByRules();
    }

    private static void ordersByRules() {
        RateWires x = loaded("Mm00m00w013202w016400");
        orderIs("the lowest", x, 0, "00111");
        orderIs("the one that uses", x, 1, "01011");
        orderIs("in turns", x, 2, "01011");
        RateWires y = loaded("Mm00m00m00w021110w121110w201105");
        orderIs("the lowest", y, 0, "012");
        orderIs("2 leaves 1 less, 0 as many", y, 1, "201");
        orderIs("in turns", y, 2, "012");
        RateWires z = loaded("Mm00m00w102100m00");
        orderIs("0 uses what 1 makes", z, 0, "1002");
        orderIs("1 makes marks: 2 comes before it", z, 1, "2100");
        orderIs("behind 1 comes 2, not 0", z, 2, "1200");
        RateWires s = loaded("Mm00m00w013300w103303");
        orderIs("a loop", s, 0, "01");
        s.put(1, 2);
        orderIs("that sticks at once", s, 0, "");
        s.addModule(0, 0);
        for (int rule = 0; rule <= 2; rule++) {
            orderIs("works ahead of that are told", s, rule, "2");
        }
    }

    private static void sticks() {
        RateWires x = loaded("Mm00m00w012300w103202");
        for (int rule = 0; rule <= 2; rule++) {
            same("behind one work, rule " + rule, 1, x.sticks(rule));
        }
        x.put(1, 3);
        same("3 are not more", 1, x.sticks(0));
        x.put(1, 4);
        same("0, 0, 1, 0, 1 goes", NONE, x.sticks(0));
        same("in turns too", NONE, x.sticks(2));
        x.put(1, 1);
        same("at once", 0, x.sticks(1));
        noArgument("sticks(-1)", () -> x.sticks(-1));
        noArgument("sticks(3)", () -> x.sticks(3));
        x.lay(0, 0, 1, 2, 9);
        same("rates that do not agree", NONE, x.sticks(0));
        same("no modules", NONE, new RateWires().sticks(2));
        sticksAtTheLimit();
    }

    private static void sticksAtTheLimit() {
        RateWires x = loaded("Mm00m00w106199w106100");
        for (int i = 0; i < 150; i++) {
            x.work(1);
        }
        x.put(1, 5);
        same("a wire is full", 999, x.wire(0, 4));
        for (int rule = 0; rule <= 2; rule++) {
            same("0 works five times, but the sixth is missing", 5, x.sticks(rule));
        }
        same("so the wire is full still", 999, x.holds(0, 0));
        same("6 would do", 6, x.fewest(1));
        same("so would a wire that is not full", 0, x.fewest(0));
        x.put(1, 6);
        same("first there must be place", 1, x.order(0, 6));
        same("then it is complete", 7, x.round(2));
    }

    private static void holds() {
        RateWires x = loaded("Mm01m10w012307");
        same("by the lowest", 13, x.holds(0, 0));
        same("by the fewest: those before it", 7, x.holds(0, 1));
        same("in turns", 9, x.holds(0, 2));
        noIndex("holds(1, 0)", () -> x.holds(1, 0));
        noIndex("the wire comes first", () -> x.holds(-1, 3));
        noArgument("holds(0, 3)", () -> x.holds(0, 3));
        noArgument("holds(0, -1)", () -> x.holds(0, -1));
        x.put(0, 0);
        x.lay(1, 0, 3, 2, 2);
        same("it sticks", 1, x.sticks(0));
        same("what came before that", 2, x.holds(0, 0));
        same("what was there before it", 2, x.holds(1, 0));
        x.lay(0, 1, 1, 1, 0);
        same("rates that do not agree", NONE, x.holds(0, 0));
    }

    private static void bestRule() {
        same("no modules", 0, new RateWires().bestRule());
        same("no wires", 0, loaded("Mm01m10").bestRule());
        RateWires x = loaded("Mm01m10w012307");
        same("they hold 13, 7, 9", 1, x.bestRule());
        x.put(0, 0);
        same("6, 4, 4", 1, x.bestRule());
        x.lay(1, 0, 3, 2, 1);
        same("it sticks by all", NONE, x.bestRule());
        x.put(1, 99);
        same("105, 105, 103", 2, x.bestRule());
        x.lay(0, 1, 1, 1, 0);
        same("rates that do not agree", NONE, x.bestRule());
    }

    private static void fewest() {
        RateWires x = loaded("Mm00m00w012305w103299");
        same("marks come before they are used", 0, x.fewest(0));
        same("the other module can begin", 0, x.fewest(1));
        x.put(0, 2);
        same("with 2 there", 2, x.fewest(1));
        x.put(0, 0);
        same("with none there", 4, x.fewest(1));
        same("it keeps its marks", 99, x.wire(1, 4));
        noIndex("fewest(2)", () -> x.fewest(2));
        noIndex("fewest(-1)", () -> x.fewest(-1));
        x.lay(0, 0, 5, 5, 4);
        same("another wire that lets none work", NONE, x.fewest(1));
        same("its own", 5, x.fewest(2));
        x.lay(1, 1, 2, 1, 9);
        same("rates that do not agree", NONE, x.fewest(0));
        fewestOfMany();
    }

    private static void fewestOfMany() {
        RateWires x = loaded("Mm00m00m00m00m00w011600w121600w236100w346100");
        same("36, 6, 1, 6, 36", 85, x.about(6));
        int[] due = {36, 72, NONE};
        for (int rate = 1; rate <= 3; rate++) {
            x.lay(4, 0, rate, rate, 99);
            same("36 works before the first of 2", due[rate - 1], x.fewest(4));
            x.cut(4);
        }
        x.lay(3, 0, 6, 1, 36);
        x.lay(1, 1, 6, 6, 7);
        same("99 and fewer", 36, x.fewest(4));
        same("all marks of a wire to itself", 6, x.fewest(5));
    }

    private static void agrees() {
        RateWires x = loaded("Mm00m00w012300w012300");
        same("2 for 3", 3, x.agrees(0, 2));
        same("4 for 6", 6, x.agrees(1, 4));
        same("none for 1", NONE, x.agrees(0, 1));
        same("none for 6", NONE, x.agrees(0, 6));
        noIndex("agrees(2, 1)", () -> x.agrees(2, 1));
        noIndex("the wire comes first", () -> x.agrees(-1, 7));
        noArgument("agrees(0, 0)", () -> x.agrees(0, 0));
        noArgument("agrees(0, 7)", () -> x.agrees(0, 7));
        x.cut(1);
        same("any rate: the smallest", 1, x.agrees(0, 6));
        x.lay(1, 1, 2, 3, 9);
        same("another wire does not agree", NONE, x.agrees(0, 2));
        same("a wire to itself", 4, x.agrees(1, 4));
        RateWires y = loaded("Mm00m00m00w016100w126100w211616");
        same("36 works", 36, y.module(2, 3));
        y.addModule(0, 0);
        y.lay(2, 3, 1, 1, 0);
        same("216, 108, 72 are too many, 54 are not", 4, y.agrees(3, 6));
        same("180 by 3", 3, y.agrees(3, 5));
    }

    // ---- 23 to 26

    private static void runScript() {
        RateWires x = loaded("Mm00m00w012305");
        noArgument("n 0", () -> x.runScript(0, 0));
        noArgument("n 4", () -> x.runScript(4, 600000600000600000L));
        noArgument("n -1", () -> x.runScript(-1, 0));
        noArgument("a negative script", () -> x.runScript(1, -600000));
        noArgument("the most negative one", () -> x.runScript(3, Long.MIN_VALUE));
        noArgument("7 digits", () -> x.runScript(1, 1000000));
        noArgument("13 digits", () -> x.runScript(2, 1000000000000L));
        noArgument("19 digits", () -> x.runScript(3, 1000000000000000000L));
        noArgument("the longest one", () -> x.runScript(3, Long.MAX_VALUE));
        same("6 digits", 0, x.runScript(1, 999999));
        same("12 digits", 0, x.runScript(2, 999999999999L));
        same("18 digits", 0, x.runScript(3, 999999999999999999L));
        same("zeros before it", 0, x.runScript(2, 600000));
        same("the first one fails", 0, x.runScript(2, 200001600000L));
        same("the second one", 1, x.runScript(2, 600000200001L));
        same("the third one", 2, x.runScript(3, 600000600000200001L));
        same("none", NONE, x.runScript(3, 600000600000600000L));
        String before = told(x);
        same("commands see what those before them did", NONE, x.runScript(3, 400001700002900101L));
        same("a cut wire is gone", 1, x.runScript(2, 200000200000L));
        same("a round counts", NONE, x.runScript(3, 500001900003900102L));
        unchanged("a script", x, before);
        noState("it is no action", x::undo);
    }

    private static void script(RateWires x, int group, boolean succeeds) {
        same("script " + group, succeeds ? NONE : 0, x.runScript(1, group));
    }

    private static void runScriptGroups() {
        RateWires x = loaded("Mm00m00m01w012325w001101");
        int[] fine = {
            101230, 101669, 100119, 200000, 200001, 300000, 300199, 300025, 400000, 400001, 400002,
            500000, 500001, 500002, 600000, 700025, 700000, 700101, 800026, 800999, 900000, 900200};
        int[] failing = {
            0, 1, 99999, 103230, 181230, 101030, 101730, 101200, 101270, 100110, 120110,
            200002, 200010, 200099, 200100, 201000, 210000,
            300100, 300200, 300999, 301000, 310000,
            400003, 400009, 400010, 400100, 401000, 410000,
            500003, 500010, 500100, 510000,
            600001, 600010, 600100, 601000, 610000,
            700026, 700102, 700200, 701000, 710000,
            800025, 800000, 801000, 801026, 810026,
            900001, 900300, 900900, 901000, 910000};
        for (int group : fine) {
            script(x, group, true);
        }
        for (int group : failing) {
            script(x, group, false);
        }
        x.lay(0, 0, 1, 2, 9);
        script(x, 600000, false);
        script(x, 500000, false);
        for (int i = 0; i < 3; i++) {
            x.work(2);
        }
        script(x, 900203, true);
        script(x, 900204, false);
    }

    private static void simulate() {
        RateWires x = loaded("Mm00m00w012305w101209m00w221103");
        noArgument("0 turns", () -> x.simulate(1, 0));
        noArgument("100 turns", () -> x.simulate(1, 100));
        noArgument("-1 turns", () -> x.simulate(1, -1));
        String before = told(x);
        for (long seed = -20; seed < 20; seed++) {
            for (int m = 1; m < 100; m += m < 5 ? 1 : 19) {
                long far = seed * 999999999999999L;
                same("simulate(" + far + ", " + m + ")", toldOf(turns("Mm00m00w012305w101209m00w221103", far, m)), x.simulate(far, m));
            }
        }
        unchanged("a simulation", x, before);
        noState("it is no action", x::undo);
        same("nothing", 0, new RateWires().simulate(Long.MAX_VALUE, 99));
        simulateMuch();
    }

    private static void simulateMuch() {
        RateWires y = loaded("Mm01m12m23m30m00m00m00m00w015199w126199w232199");
        same("works in a round", 1 + 5 + 30 + 60 + 4, y.about(6));
        boolean most = false;
        for (int seed = 0; seed < 40; seed++) {
            int got = y.simulate(seed, 99);
            most |= got / 1000 == 999;
            Checks.isTrue("at most 999 and 999", got / 1000 <= 999 && got >= 0);
        }
        Checks.isTrue("999 works or more", most);
        RateWires z = loaded("Mm01m12m12w016199w026199w016199w026199w016199w026199w016199w026199w016199w026199w016199w026199");
        for (int i = 0; i < 10; i++) {
            z.work(0);
        }
        same("many marks", 12 * (99 + 60), z.about(2));
        same("999 marks or more", 999, z.simulate(7, 1) % 1000);
    }

    private static void save() {
        RateWires x = loaded("Mm00m00w011105w101106");
        noIndex("save(-1)", () -> x.save(-1));
        noIndex("save(2)", () -> x.save(2));
        noIndex("save(MAX)", () -> x.save(MAX_VALUE));
        String before = told(x);
        same("save", 2, x.save(0));
        unchanged("save", x, before);
        noState("it is no action", x::undo);
        x.cut(0);
        same("the other slot", 1, x.save(1));
        same("save does not forget", 0, x.undo());
        x.restore(0);
        unchanged("what was saved first", x, before);
        x.put(0, 77);
        same("a slot is saved anew", 2, x.save(0));
        x.put(0, 78);
        x.restore(0);
        same("with what was then", 77, x.wire(0, 4));
    }

    private static void restore() {
        RateWires x = loaded("Mm00m01w001105");
        noIndex("restore(-1)", () -> x.restore(-1));
        noIndex("restore(2)", () -> x.restore(2));
        noState("nothing in 0", () -> x.restore(0));
        x.work(0);
        x.work(1);
        x.save(1);
        noState("nothing in 0 still", () -> x.restore(0));
        same("that is no action, and forgets nothing", 1, x.undo());
        x.work(1);
        x.lay(0, 1, 2, 2, 3);
        x.addModule(3, 3);
        type(x, "M?");
        same("restore", 1, x.restore(1));
        same("modules", 2, x.about(0));
        same("works", 2, x.about(3));
        same("works of 1", 1, x.module(1, 2));
        same("the text stays", 1, x.errorPosition());
        noState("nothing is remembered", x::undo);
        x.cut(0);
        same("the slot keeps it", 1, x.restore(1));
        same("its marks", 5, x.wire(0, 4));
        x.put(0, 9);
        same("it is a copy", 1, x.restore(1));
        same("its marks still", 5, x.wire(0, 4));
        type(x, "M");
        x.load();
        noState("nothing since the last load", () -> x.restore(1));
    }

    private static void askingChangesNothing() {
        RateWires x = loaded("Mm00m00w012305w103208m01");
        x.work(2);
        x.work(2);
        String before = told(x);
        for (int rule = 0; rule <= 2; rule++) {
            x.order(rule, 3);
            x.sticks(rule);
            x.holds(0, rule);
        }
        x.bestRule();
        x.fewest(1);
        x.agrees(0, 5);
        x.between(0, 1);
        x.runScript(3, 400000500000200000L);
        x.simulate(3, 99);
        x.save(0);
        unchanged("asking", x, before);
        same("nor what is remembered", 1, x.undo());
    }
}
