/** The edges of the text, and of the promises 1 to 5: a test for each sentence. */
final class EdgeTextTest extends PlanCases {
    private static final String COMMANDS = "mwcf";
    private static final String MODULES = "01234567";
    private static final String RATES = "123456";
    private static final String DIGITS = "0123456789";

    private EdgeTextTest() {
    }

    public static void main(String[] args) {
        newObject();
        characters();
        newLength();
        fullText();
        clearing();
        planOrNone();
        aPlan();
        modulesOfText();
        wiresOfText();
        cutsOfText();
        worksOfText();
        noBlanks();
        leftToRight();
        errorIsFirst();
        errorOfDigits();
        textEndsTooSoon();
        leftOutModules();
        leftOutWires();
        leftOutCutsAndWorks();
        loadIsAnew();
        loadForgets();
        loadKeepsTheText();
        leftOutCount();
        loadOfNoPlan();
        Checks.end("EdgeTextTest");
    }

    // ---- 1 to 4

    private static void newObject() {
        sentence("Creates a plan without modules");
        RateWires x = new RateWires();
        same("modules", 0, x.about(0));
        same("wires", 0, x.about(1));
        same("marks", 0, x.about(2));
        same("works", 0, x.about(3));
        noIndex("the module 0", () -> x.module(0, 0));
        noIndex("the wire 0", () -> x.wire(0, 0));
        noState("nothing to undo", x::undo);
        noState("nothing in the slot 0", () -> x.restore(0));
        noState("nothing in the slot 1", () -> x.restore(1));
        same("the error position of no text", 0, x.errorPosition());
        same("no text", 0, x.clearText());
        same("the first module", 0, x.addModule(3, 3));
    }

    private static void characters() {
        sentence("character code, 0 to 255");
        arguments("code", 0, 255, c -> new RateWires().append(c));
        RateWires x = loaded("M");
        noArgument("256 and M", () -> x.append(256 + 'M'));
        noArgument("an m that is 65536 too high", () -> x.append(65536 + 'm'));
        same("the text is M still", NONE, x.errorPosition());
        same("and one more", 2, x.append('m'));
    }

    private static void newLength() {
        sentence("Returns the new length of the text");
        RateWires x = new RateWires();
        for (int n = 1; n <= 120; n++) {
            same("length", n, x.append(n));
        }
        x.clearText();
        same("length of a text anew", 1, x.append(0));
    }

    private static void fullText() {
        sentence("The object has a text buffer of at most 120 characters");
        RateWires x = new RateWires();
        type(x, "M" + "m00".repeat(39) + "f");
        same("119 characters", 119, x.errorPosition());
        same("the character 120", 120, x.append('7'));
        same("a plan of 120 characters", NONE, x.errorPosition());
        noState("the character 121", () -> x.append('f'));
        noState("again", () -> x.append(0));
        same("a plan still", NONE, x.errorPosition());
        same("31 modules are left out, not the work", 31, x.load());
        same("the work", 1, x.module(7, 2));
        same("length", 120, x.clearText());
        same("there is place again", 1, x.append('M'));
    }

    private static void clearing() {
        sentence("Returns the previous length of the text");
        RateWires x = new RateWires();
        for (int n : new int[] {0, 1, 2, 60, 119, 120}) {
            for (int i = 0; i < n; i++) {
                x.append('M');
            }
            same("length", n, x.clearText());
            same("then it is empty", 0, x.clearText());
            same("and no plan", 0, x.errorPosition());
        }
    }

    private static void planOrNone() {
        sentence("Returns the error position of the text; NONE if it is a plan");
        same("a plan", -1, errorIn("M"));
        same("a longer one", -1, errorIn("Mm00f0w001101c00"));
        same("an error at 0", 0, errorIn("m"));
        same("an error at 1", 1, errorIn("MM"));
        RateWires x = loaded("M");
        String before = told(x);
        type(x, "Mx");
        same("asked", 1, x.errorPosition());
        same("asked again", 1, x.errorPosition());
        same("the text is as it was", 2, x.clearText());
        unchanged("checking", x, before);
    }

    // ---- what a plan is

    /** Behind a text, only these of all characters are allowed. */
    private static void next(String text, String allowed) {
        for (int c = 0; c <= 255; c++) {
            RateWires x = new RateWires();
            type(x, text);
            x.append(c);
            int error = x.errorPosition();
            boolean isAllowed = error == NONE || error == text.length() + 1;
            same("the character " + c + " behind " + text, allowed.indexOf(c) >= 0 ? 1 : 0, isAllowed ? 1 : 0);
            if (!isAllowed) {
                same("the place of the character " + c + " behind " + text, text.length(), error);
            }
        }
    }

    private static void aPlan() {
        sentence("A plan is the letter M, and then any number of commands");
        next("", "M");
        next("M", COMMANDS);
        same("no commands", NONE, errorIn("M"));
        same("one", NONE, errorIn("Mf0"));
        same("many", NONE, errorIn("M" + "f0".repeat(59)));
        same("no M", 0, errorIn("f0"));
        same("two of them", 3, errorIn("Mf0M"));
    }

    private static void modulesOfText() {
        sentence("m and two digits (0 to 3) for the kinds that a module uses and makes: addModule()");
        next("Mm", "0123");
        next("Mm0", "0123");
        next("Mm3", "0123");
        next("Mm30", COMMANDS);
        next("Mm33", COMMANDS);
        RateWires x = loaded("Mm03m21");
        same("uses", 0, x.module(0, 0));
        same("makes", 3, x.module(0, 1));
        same("uses", 2, x.module(1, 0));
        same("makes", 1, x.module(1, 1));
    }

    private static void wiresOfText() {
        sentence("w, a digit for a module (0 to 7), one for another or the same, two digits for the rates (1 to 6), and two for the marks (00 to 99): lay()");
        next("Mw", MODULES);
        for (String text : new String[] {"Mw0", "Mw7"}) {
            next(text, MODULES);
        }
        for (String text : new String[] {"Mw00", "Mw77", "Mw001", "Mw776"}) {
            next(text, RATES);
        }
        for (String text : new String[] {"Mw0011", "Mw7766", "Mw00110", "Mw77669"}) {
            next(text, DIGITS);
        }
        next("Mw001100", COMMANDS);
        next("Mw776699", COMMANDS);
        RateWires x = loaded("M" + "m00".repeat(8) + "w001601w076199w702300w705458");
        int[][] due = {{0, 0, 1, 6, 1}, {0, 7, 6, 1, 99}, {7, 0, 2, 3, 0}, {7, 0, 5, 4, 58}};
        for (int w = 0; w < 4; w++) {
            for (int what = 0; what <= 4; what++) {
                same("wire(" + w + ", " + what + ")", due[w][what], x.wire(w, what));
            }
        }
    }

    private static void cutsOfText() {
        sentence("c and two digits for a wire (00 to 13): cut()");
        next("Mc", "01");
        next("Mc0", DIGITS);
        next("Mc1", "0123");
        for (String text : new String[] {"Mc00", "Mc09", "Mc10", "Mc13"}) {
            next(text, COMMANDS);
        }
        String wires = "";
        for (int w = 10; w < 24; w++) {
            wires += "w0011" + w;
        }
        for (int w = 0; w < 14; w++) {
            RateWires x = loaded("Mm00" + wires + "c" + w / 10 + w % 10);
            same("one less", 13, x.about(1));
            for (int i = 0; i < 13; i++) {
                same("marks behind a cut of " + w, 10 + (i < w ? i : i + 1), x.wire(i, 4));
            }
        }
    }

    private static void worksOfText() {
        sentence("f and a digit for a module (0 to 7): work()");
        next("Mf", MODULES);
        next("Mf0", COMMANDS);
        next("Mf7", COMMANDS);
        for (int m = 0; m < 8; m++) {
            RateWires x = loaded("M" + "m12".repeat(8) + "f" + m);
            for (int o = 0; o < 8; o++) {
                same("works of " + o, o == m ? 1 : 0, x.module(o, 2));
            }
        }
    }

    private static void noBlanks() {
        sentence("There are no blanks");
        String plan = "Mm00w001101c00f0";
        for (int i = 0; i <= plan.length(); i++) {
            for (char blank : new char[] {' ', '\t', '\n', '\r', (char) 160, (char) 0}) {
                same("a blank at " + i, i, errorIn(plan.substring(0, i) + blank + plan.substring(i)));
            }
        }
    }

    private static void leftToRight() {
        sentence("The text is read from left to right");
        RateWires x = new RateWires();
        type(x, "Mf0m00f0w001101c01c00w001102");
        same("f0 and c01 come too soon", 2, x.load());
        same("the marks of the last wire", 2, x.about(2));
        same("the last work", 1, x.about(3));
        same("the first of two errors", 3, errorIn("Mm04w8"));
        same("an error ahead of an end too soon", 2, errorIn("Mf8w0"));
    }

    private static void errorIsFirst() {
        sentence("The error position is the index of the first character that these rules do not allow at its place");
        String plan = "Mm33w776699c13f7m00w001100c00f0";
        for (int i = 0; i < plan.length(); i++) {
            for (char wrong : new char[] {'x', '/', ':', (char) 255}) {
                same(wrong + " at " + i, i, errorIn(plan.substring(0, i) + wrong + plan.substring(i + 1)));
                same(wrong + " at " + i + " and at the end", i, errorIn(plan.substring(0, i) + wrong + plan.substring(i + 1) + wrong));
            }
        }
    }

    private static void errorOfDigits() {
        sentence("(a digit is not allowed if no number that is allowed begins with it and those before it)");
        for (int w = 0; w <= 99; w++) {
            int due = w <= 13 ? NONE : w <= 19 ? 3 : 2;
            same("the wire " + w, due, errorIn("Mc" + w / 10 + w % 10));
            same("the wire " + w + ", and an error behind it", due == NONE ? 4 : due, errorIn("Mc" + w / 10 + w % 10 + "x"));
        }
        same("2 alone", 2, errorIn("Mc2"));
        same("1 alone", 3, errorIn("Mc1"));
        for (int marks = 0; marks <= 99; marks++) {
            same("marks " + marks, NONE, errorIn("Mw0011" + marks / 10 + marks % 10));
        }
    }

    private static void textEndsTooSoon() {
        sentence("if the text ends too soon, it is the length of the text");
        same("no text", 0, errorIn(""));
        for (String command : new String[] {"m33", "w776699", "c13", "c09", "f7"}) {
            for (String before : new String[] {"M", "Mm00", "Mw001100", "Mc00", "Mf0"}) {
                for (int n = 1; n < command.length(); n++) {
                    String text = before + command.substring(0, n);
                    same(text, text.length(), errorIn(text));
                }
                same(before + command, NONE, errorIn(before + command));
            }
        }
        same("120 characters", 120, errorIn("M" + "f0".repeat(57) + "m00" + "c1"));
        same("also 120", 120, errorIn("M" + "f0".repeat(59) + "w"));
    }

    // ---- load

    private static RateWires loadedBut(int leftOut, String text) {
        RateWires x = new RateWires();
        type(x, text);
        same("left out of " + text, leftOut, x.load());
        return x;
    }

    private static void leftOutModules() {
        sentence("Commands that would throw an exception are left out: addModule()");
        same("8 modules", 8, loadedBut(0, "M" + "m00".repeat(8)).about(0));
        RateWires x = loadedBut(1, "M" + "m00".repeat(8) + "m11f7");
        same("9 modules", 8, x.about(0));
        same("the last one is as it was", 0, x.module(7, 0));
        same("what is behind it is done", 1, x.about(3));
        same("39 modules", 8, loadedBut(31, "M" + "m00".repeat(39)).about(0));
    }

    private static void leftOutWires() {
        sentence("Commands that would throw an exception are left out: lay()");
        same("no module 1", 0, loadedBut(1, "Mm00w011105").about(1));
        same("no module 1 from which it leads", 0, loadedBut(1, "Mm00w101105").about(1));
        same("no module 7", 0, loadedBut(2, "M" + "m00".repeat(7) + "w071105w701105").about(1));
        same("a module 7", 2, loadedBut(0, "M" + "m00".repeat(8) + "w071105w701105").about(1));
        same("other kinds", 1, loadedBut(2, "Mm01m12w101105w011105w001105").about(1));
        same("14 wires", 14, loadedBut(0, "Mm00" + "w001105".repeat(14)).about(1));
        RateWires x = loadedBut(1, "Mm00" + "w001105".repeat(14) + "w001106f0");
        same("15 wires", 14 * 5, x.about(2));
        same("what is behind it is done", 1, x.about(3));
        same("a dead loop of one", 0, loadedBut(1, "Mm00w001100").about(1));
        same("a loop with a mark", 1, loadedBut(0, "Mm00w001101").about(1));
        same("a dead loop of two", 1, loadedBut(1, "Mm00m00w011100w101100").about(1));
        same("a loop of two with a mark", 2, loadedBut(0, "Mm00m00w011100w101101").about(1));
    }

    private static void leftOutCutsAndWorks() {
        sentence("Commands that would throw an exception are left out: cut(), work()");
        same("no wires", 0, loadedBut(2, "Mc00c13").about(1));
        same("one wire", 1, loadedBut(1, "Mm00w001101c01").about(1));
        same("one wire less", 0, loadedBut(1, "Mm00w001101c00c00").about(1));
        same("no modules", 0, loadedBut(2, "Mf0f7").about(3));
        same("one module", 1, loadedBut(1, "Mm00f0f1").about(3));
        RateWires x = loadedBut(2, "Mm00m00w011200f1f0f1f0f1");
        same("too few marks twice", 3, x.about(3));
        same("then enough", 1, x.module(1, 2));
        same("all are used", 0, x.about(2));
    }

    private static RateWires used() {
        RateWires x = loaded("Mm12m21w012305w103207f0");
        x.work(0);
        x.save(0);
        x.save(1);
        x.addModule(3, 3);
        x.work(2);
        return x;
    }

    private static void loadIsAnew() {
        sentence("Makes everything as in a new object, and then does the commands of the text");
        for (String text : new String[] {"M", "Mm00", "Mm00f0w001105", "M" + "m00".repeat(8) + "w671100"}) {
            RateWires x = used();
            type(x, text);
            same("left out", 0, x.load());
            unchanged("what was there before " + text, x, told(loaded(text)));
            same("left out again", 0, x.load());
            unchanged("a second load of " + text, x, told(loaded(text)));
        }
        RateWires y = used();
        type(y, "M");
        y.load();
        same("no modules", 0, y.about(0));
        same("no works", 0, y.about(3));
        same("the first module", 0, y.addModule(0, 1));
        same("has not worked", 0, y.module(0, 2));
        y.addModule(1, 0);
        same("the first wire", 0, y.lay(0, 1, 1, 1, 0));
    }

    private static void loadForgets() {
        sentence("Behind it no state is remembered, and both save slots are empty");
        RateWires x = used();
        type(x, "Mm00m00w011105f0");
        x.load();
        noState("its commands are no actions, nor is load", x::undo);
        noState("the slot 0", () -> x.restore(0));
        noState("the slot 1", () -> x.restore(1));
        x.work(0);
        same("undo goes back to what load made", 0, x.undo());
        same("which is the text", 6, x.about(2));
        x.save(1);
        noState("the slot 0 is empty still", () -> x.restore(0));
        same("the slot 1 is not", 1, x.restore(1));
        x.load();
        noState("now it is", () -> x.restore(1));
    }

    private static void loadKeepsTheText() {
        sentence("Keeps the text");
        RateWires x = used();
        type(x, "Mm00f1f0");
        same("left out", 1, x.load());
        same("the text is a plan still", NONE, x.errorPosition());
        same("left out again", 1, x.load());
        same("one more character", 9, x.append('f'));
        noState("of which there is no plan", x::load);
        same("the text is kept", 9, x.clearText());
    }

    private static void leftOutCount() {
        sentence("Returns the number of commands that are left out");
        loadedBut(0, "M");
        loadedBut(0, "Mm00");
        for (int n = 1; n <= 59; n++) {
            loadedBut(n, "M" + "f0".repeat(n));
        }
        loadedBut(1, "Mm00f0f1f0");
        loadedBut(4, "Mf0m00w001100c00f1");
    }

    private static void loadOfNoPlan() {
        sentence("Throws IllegalStateException if the text is not a plan");
        for (String text : new String[] {"", "m00", "Mm0", "Mm00x", "MM", "Mw007711", "Mc14", "M\u0000"}) {
            RateWires x = used();
            type(x, text);
            String before = told(x);
            noState("load of " + text, x::load);
            unchanged("load of " + text, x, before);
            same("the text", text.length(), x.clearText());
            same("what is remembered", 2, x.undo());
            same("the slot 0", 2, x.restore(0));
            same("the slot 1", 2, x.restore(1));
        }
    }
}
