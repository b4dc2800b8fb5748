/** The edges of what can be asked, promises 6 to 9 and 17 to 22: a test for each sentence. */
final class EdgeAskingTest extends PlanCases {
    private EdgeAskingTest() {
    }

    public static void main(String[] args) {
        aboutRefused();
        aboutCounts();
        aboutMarks();
        aboutWorks();
        aboutRound();
        aboutReady();
        aboutLoops();
        moduleRefusedForModules();
        moduleRefusedForWhat();
        moduleWorks();
        moduleWires();
        wireRefusedForWires();
        wireRefusedForWhat();
        wireNumbers();
        betweenRefused();
        betweenSmallest();
        betweenTheSame();
        betweenNone();
        orderRefused();
        orderFirstAndLast();
        orderAheadOfSticking();
        sticksRefused();
        sticksBehind();
        holdsRefusedForWires();
        holdsRefusedForRules();
        holdsAtATime();
        holdsAlsoIfItSticks();
        bestRuleFewest();
        bestRuleNone();
        fewestRefused();
        fewestSmallest();
        fewestNone();
        agreesRefusedForWires();
        agreesRefusedForRates();
        agreesSmallest();
        agreesNone();
        Checks.end("EdgeAskingTest");
    }

    // ---- 6

    private static void aboutRefused() {
        sentence("about: Throws IllegalArgumentException if what is not 0 to 8");
        arguments("a new object", 0, 8, what -> new RateWires().about(what));
        RateWires x = loaded("Mm00w001105");
        arguments("a plan", 0, 8, x::about);
    }

    private static void aboutCounts() {
        sentence("0: the modules; 1: the wires");
        RateWires x = new RateWires();
        same("no modules", 0, x.about(0));
        for (int n = 1; n <= 8; n++) {
            x.addModule(0, 0);
            same("modules", n, x.about(0));
            same("no wires", 0, x.about(1));
        }
        for (int n = 1; n <= 14; n++) {
            x.lay(0, 1, 1, 1, 0);
            same("wires", n, x.about(1));
            same("modules still", 8, x.about(0));
        }
        for (int n = 13; n >= 0; n--) {
            x.cut(n / 2);
            same("wires", n, x.about(1));
        }
    }

    private static void aboutMarks() {
        sentence("2: the marks on all wires together");
        RateWires x = plain(2);
        same("no wires", 0, x.about(2));
        for (int n = 1; n <= 14; n++) {
            x.lay(0, 1, 6, 1, 99);
            same("of " + n, 99 * n, x.about(2));
        }
        for (int i = 0; i < 150; i++) {
            x.work(0);
        }
        same("all full", 14 * 999, x.about(2));
        x.put(13, 0);
        same("all but the last", 13 * 999, x.about(2));
        x.cut(0);
        same("all but two", 12 * 999, x.about(2));
    }

    private static void aboutWorks() {
        sentence("3: the works so far, of all modules together");
        RateWires x = plain(8);
        same("none", 0, x.about(3));
        for (int m = 0; m < 8; m++) {
            x.work(m);
            same("one more", m + 1, x.about(3));
        }
        x.lay(0, 1, 2, 1, 0);
        x.round(0);
        same("9 of a round", 17, x.about(3));
        x.cut(0);
        same("a wire less", 17, x.about(3));
        x.undo();
        x.undo();
        same("the round is taken back", 8, x.about(3));
    }

    private static void aboutRound() {
        sentence("6: the works of a round of all modules together, NONE if the rates do not agree");
        RateWires x = new RateWires();
        same("no modules agree", 1, x.about(4));
        same("no works", 0, x.about(6));
        x.addModule(0, 0);
        x.addModule(0, 0);
        same("one each", 2, x.about(6));
        x.lay(0, 1, 1, 6, 0);
        same("6 and 1", 7, x.about(6));
        x.work(0);
        same("also behind works", 7, x.about(6));
        x.lay(0, 1, 6, 1, 0);
        same("none", NONE, x.about(6));
        same("they do not agree", 0, x.about(4));
        x.cut(0);
        same("1 and 6", 7, x.about(6));
        same("they do", 1, x.about(4));
    }

    private static void aboutReady() {
        sentence("7: the modules that can work now, bit m set for the module m");
        same("no modules", 0, new RateWires().about(7));
        for (int n = 1; n <= 8; n++) {
            RateWires x = plain(n);
            same("all of " + n, (1 << n) - 1, x.about(7));
            x.lay(0, n - 1, 1, 2, 1);
            same("not the last of " + n, (1 << n - 1) - 1, x.about(7));
            x.put(0, 2);
            same("all of " + n + " again", (1 << n) - 1, x.about(7));
        }
        RateWires y = loaded("Mm00m00w016199");
        for (int i = 0; i < 150; i++) {
            y.work(0);
        }
        same("not one that has no place", 2, y.about(7));
        y.put(0, 0);
        same("not one that has no marks", 1, y.about(7));
    }

    private static void aboutLoops() {
        sentence("8: the modules that are on some loop, likewise");
        same("no modules", 0, new RateWires().about(8));
        for (int m = 0; m < 8; m++) {
            RateWires x = plain(8);
            same("no wires", 0, x.about(8));
            x.lay(m, m, 1, 2, 9);
            same("one with a wire to itself", 1 << m, x.about(8));
            int next = (m + 1) % 8;
            x.lay(m, next, 1, 1, 0);
            same("the next is on none", 1 << m, x.about(8));
            x.lay(next, m, 1, 1, 1);
            same("the next too", 1 << m | 1 << next, x.about(8));
        }
        RateWires y = plain(8);
        for (int m = 7; m > 0; m--) {
            y.lay(m, m - 1, 1, 1, 0);
        }
        same("none", 0, y.about(8));
        y.lay(0, 7, 1, 1, 1);
        same("a loop of eight", 255, y.about(8));
        y.cut(3);
        same("cut", 0, y.about(8));
    }

    // ---- 7 and 8

    private static void moduleRefusedForModules() {
        sentence("module: Throws IndexOutOfBoundsException if there is no such module");
        noIndex("no modules", () -> new RateWires().module(0, 0));
        for (int n = 1; n <= 8; n++) {
            RateWires x = plain(n);
            for (int what = 0; what <= 5; what++) {
                int number = what;
                indexes("one of " + n, 0, n - 1, m -> x.module(m, number));
            }
        }
    }

    private static void moduleRefusedForWhat() {
        sentence("module: Throws IllegalArgumentException if what is not 0 to 5");
        for (int n = 1; n <= 8; n++) {
            RateWires x = plain(n);
            int last = n - 1;
            arguments("of the first of " + n, 0, 5, what -> x.module(0, what));
            arguments("of the last of " + n, 0, 5, what -> x.module(last, what));
        }
    }

    private static void moduleWorks() {
        sentence("2: its works so far; 3: its works in a round, NONE if the rates do not agree");
        RateWires x = loaded("Mm00m00m00w012300");
        same("no works so far", 0, x.module(0, 2));
        same("in a round", 3, x.module(0, 3));
        same("in a round", 2, x.module(1, 3));
        same("of a part by itself", 1, x.module(2, 3));
        x.round(0);
        x.work(0);
        same("so far", 4, x.module(0, 2));
        same("so far", 2, x.module(1, 2));
        same("in a round as before", 3, x.module(0, 3));
        x.lay(2, 2, 1, 2, 9);
        for (int m = 0; m < 3; m++) {
            same("NONE for each module", -1, x.module(m, 3));
        }
        same("so far as before", 4, x.module(0, 2));
    }

    private static void moduleWires() {
        sentence("4: the wires that lead to it; 5: the wires that lead from it");
        RateWires x = plain(3);
        for (int m = 0; m < 3; m++) {
            same("none to " + m, 0, x.module(m, 4));
            same("none from " + m, 0, x.module(m, 5));
        }
        for (int n = 1; n <= 12; n++) {
            x.lay(0, 2, 1, 1, 1);
            same("from 0", n, x.module(0, 5));
            same("to 2", n, x.module(2, 4));
            same("none to 0", 0, x.module(0, 4));
            same("none from 2", 0, x.module(2, 5));
        }
        x.lay(0, 0, 1, 1, 1);
        same("one to itself leads from it", 13, x.module(0, 5));
        same("and to it", 1, x.module(0, 4));
        x.lay(2, 0, 1, 1, 1);
        same("two to 0", 2, x.module(0, 4));
        same("none of 1", 0, x.module(1, 4) + x.module(1, 5));
        x.cut(0);
        same("one less", 12, x.module(0, 5));
        same("one less", 11, x.module(2, 4));
    }

    private static void wireRefusedForWires() {
        sentence("wire: Throws IndexOutOfBoundsException if there is no such wire");
        noIndex("no wires", () -> plain(2).wire(0, 0));
        for (int n = 1; n <= 14; n++) {
            RateWires x = loaded("Mm00" + "w001105".repeat(n));
            for (int what = 0; what <= 4; what++) {
                int number = what;
                indexes("one of " + n, 0, n - 1, w -> x.wire(w, number));
            }
        }
    }

    private static void wireRefusedForWhat() {
        sentence("wire: Throws IllegalArgumentException if what is not 0 to 4");
        for (int n = 1; n <= 14; n++) {
            RateWires x = loaded("Mm00" + "w001105".repeat(n));
            int last = n - 1;
            arguments("of the first of " + n, 0, 4, what -> x.wire(0, what));
            arguments("of the last of " + n, 0, 4, what -> x.wire(last, what));
        }
    }

    private static void wireNumbers() {
        sentence("2: how many marks come onto it at a time; 3: how many are used; 4: the marks on it");
        RateWires x = plain(8);
        int[][] wires = {{0, 7, 1, 6, 0}, {7, 0, 6, 1, 99}, {7, 7, 6, 6, 98}, {0, 0, 1, 1, 1}, {3, 4, 2, 5, 50}};
        for (int w = 0; w < wires.length; w++) {
            x.lay(wires[w][0], wires[w][1], wires[w][2], wires[w][3], wires[w][4]);
        }
        for (int w = 0; w < wires.length; w++) {
            for (int what = 0; what <= 4; what++) {
                same("wire(" + w + ", " + what + ")", wires[w][what], x.wire(w, what));
            }
        }
        x.work(3);
        same("2 more", 52, x.wire(4, 4));
        same("the rates stay", 2, x.wire(4, 2));
    }

    // ---- 9

    private static void betweenRefused() {
        sentence("between: Throws IndexOutOfBoundsException if there is no such module");
        noIndex("no modules", () -> new RateWires().between(0, 0));
        for (int n = 1; n <= 8; n++) {
            RateWires x = plain(n);
            int last = n - 1;
            indexes("from one of " + n, 0, last, a -> x.between(a, last));
            indexes("to one of " + n, 0, last, b -> x.between(last, b));
        }
        RateWires y = plain(8);
        noIndex("both", () -> y.between(8, 8));
    }

    private static void betweenSmallest() {
        sentence("Returns the smallest number of marks on the wires of a way from a to b together");
        RateWires x = plain(8);
        for (int m = 0; m < 7; m++) {
            x.lay(m, m + 1, 1, 1, 0);
        }
        same("seven wires without marks", 0, x.between(0, 7));
        same("one of them", 0, x.between(6, 7));
        for (int w = 0; w < 7; w++) {
            x.put(w, w + 1);
        }
        same("seven wires", 28, x.between(0, 7));
        x.lay(0, 7, 1, 1, 29);
        same("one with more", 28, x.between(0, 7));
        x.put(7, 27);
        same("one with fewer", 27, x.between(0, 7));
        x.lay(0, 7, 1, 1, 26);
        same("another one with fewer still", 26, x.between(0, 7));
        x.lay(6, 0, 1, 1, 5);
        same("a way around", 5 + 1 + 2, x.between(6, 2));
        same("a way to 7 that is shorter by itself", 7, x.between(6, 7));
        x.put(6, 99);
        same("around is shorter now", 5 + 26, x.between(6, 7));
        RateWires y = loaded("M" + "m00".repeat(8) + "w016199w126199w236199w346199w456199w566199w676199");
        for (int i = 0; i < 50; i++) {
            for (int m = 6; m >= 0; m--) {
                y.work(m);
            }
        }
        same("as many as come", 7 * 99 + 50 * (6 + 6 * 5), y.between(0, 7));
    }

    private static void betweenTheSame() {
        sentence("(a row of one or more wires, each beginning where the one before it leads to)");
        for (int n = 1; n <= 8; n++) {
            RateWires x = plain(8);
            for (int m = 0; m < n; m++) {
                x.lay(m, (m + 1) % n, 1, 1, 9 - m);
            }
            int all = n * (19 - n) / 2;
            for (int m = 0; m < n; m++) {
                same("a loop of " + n, all, x.between(m, m));
                same("all but one", n == 1 ? all : all - (9 - m), x.between((m + 1) % n, m));
            }
            if (n < 8) {
                same("to itself without wires", NONE, x.between(7, 7));
                x.lay(0, 0, 1, 1, all - 1);
                same("one wire with fewer", all - 1, x.between(0, 0));
            }
        }
        RateWires y = loaded("Mm00m00w011100w101101w001103");
        same("two wires hold fewer than one", 1, y.between(0, 0));
        same("not a way without wires", 1, y.between(1, 1));
    }

    private static void betweenNone() {
        sentence("between: NONE if there is no way");
        RateWires x = plain(4);
        for (int a = 0; a < 4; a++) {
            for (int b = 0; b < 4; b++) {
                same("no wires", -1, x.between(a, b));
            }
        }
        x.lay(0, 1, 1, 1, 0);
        x.lay(2, 1, 1, 1, 0);
        x.lay(2, 3, 1, 1, 0);
        same("a way", 0, x.between(0, 1));
        same("against a wire", -1, x.between(1, 0));
        same("to a wire's end and back", -1, x.between(0, 2));
        same("from a wire's beginning and on", -1, x.between(1, 3));
        same("to itself", -1, x.between(2, 2));
    }

    // ---- 17 and 18

    private static void orderRefused() {
        sentence("order: Throws IllegalArgumentException if rule is out of range, or k is negative");
        RateWires x = loaded("Mm00m00w012305");
        arguments("rule", 0, 2, rule -> x.order(rule, 0));
        for (int rule = 0; rule <= 2; rule++) {
            int r = rule;
            same("k 0", rule == 1 ? 1 : 0, x.order(rule, 0));
            noArgument("k -1", () -> x.order(r, -1));
            noArgument("k MIN", () -> x.order(r, Integer.MIN_VALUE));
            same("the highest k", NONE, x.order(rule, Integer.MAX_VALUE));
        }
        x.lay(0, 0, 1, 2, 9);
        noArgument("rates that do not agree, k -1", () -> x.order(0, -1));
        noArgument("rates that do not agree, rule 3", () -> x.order(3, 0));
        noArgument("no modules, k -1", () -> new RateWires().order(0, -1));
    }

    private static void orderFirstAndLast() {
        sentence("order: NONE if the rates do not agree, or the round has not so many works");
        RateWires x = loaded("Mm00m00w012306");
        for (int rule = 0; rule <= 2; rule++) {
            Checks.isTrue("the first work", x.order(rule, 0) >= 0);
            Checks.isTrue("the last work", x.order(rule, 4) >= 0);
            same("the one behind it", -1, x.order(rule, 5));
            same("no modules", -1, new RateWires().order(rule, 0));
            same("one module", 0, plain(1).order(rule, 0));
            same("no more", -1, plain(1).order(rule, 1));
            same("the last of eight", 7, plain(8).order(rule, 7));
            same("no ninth", -1, plain(8).order(rule, 8));
        }
        x.lay(0, 1, 1, 1, 5);
        for (int rule = 0; rule <= 2; rule++) {
            same("rates that do not agree", -1, x.order(rule, 0));
        }
    }

    private static void orderAheadOfSticking() {
        sentence("order: or sticks before (works ahead of that are told)");
        RateWires x = loaded("Mm00m00w012300w103205");
        orderIs("complete: 0 twice, 1, and both again", x, 0, "00101");
        x.put(1, 3);
        for (int rule = 0; rule <= 2; rule++) {
            orderIs("it sticks behind one", x, rule, "0");
        }
        x.addModule(0, 0);
        for (int rule = 0; rule <= 2; rule++) {
            orderIs("it sticks behind two", x, rule, "02");
        }
        x.put(1, 1);
        for (int rule = 0; rule <= 2; rule++) {
            orderIs("only 2 can work", x, rule, "2");
        }
        x.lay(2, 2, 3, 3, 2);
        for (int rule = 0; rule <= 2; rule++) {
            orderIs("it sticks at once", x, rule, "");
        }
    }

    private static void sticksRefused() {
        sentence("sticks: Throws IllegalArgumentException if rule is out of range");
        arguments("no modules", 0, 2, rule -> new RateWires().sticks(rule));
        RateWires x = loaded("Mm00m00w012305");
        arguments("a plan", 0, 2, x::sticks);
        x.lay(0, 1, 1, 1, 1);
        arguments("rates that do not agree", 0, 2, x::sticks);
    }

    private static void sticksBehind() {
        sentence("Returns behind how many works it sticks; NONE if it is complete, or the rates do not agree");
        for (int rule = 0; rule <= 2; rule++) {
            RateWires x = loaded("Mm00m00m00w011600w121100w206101");
            for (int marks = 1; marks <= 7; marks++) {
                x.put(2, marks);
                same(marks + " marks, rule " + rule, marks < 6 ? marks : -1, x.sticks(rule));
            }
            x.lay(1, 1, 2, 2, 1);
            same("behind all works of 0", 6, x.sticks(rule));
            x.lay(0, 0, 3, 3, 2);
            same("at once", 0, x.sticks(rule));
            x.lay(0, 0, 3, 4, 4);
            same("rates that do not agree", -1, x.sticks(rule));
            same("no modules", -1, new RateWires().sticks(rule));
            same("no wires", -1, plain(8).sticks(rule));
        }
    }

    // ---- 19

    private static void holdsRefusedForWires() {
        sentence("holds: Throws IndexOutOfBoundsException if there is no such wire");
        noIndex("no wires", () -> plain(2).holds(0, 0));
        for (int n = 1; n <= 14; n++) {
            RateWires x = loaded("Mm00" + "w001105".repeat(n));
            for (int rule = 0; rule <= 2; rule++) {
                int r = rule;
                indexes("one of " + n, 0, n - 1, w -> x.holds(w, r));
            }
        }
    }

    private static void holdsRefusedForRules() {
        sentence("holds: Throws IllegalArgumentException if rule is out of range");
        for (int n = 1; n <= 14; n++) {
            RateWires x = loaded("Mm00" + "w001105".repeat(n));
            int last = n - 1;
            arguments("the last of " + n, 0, 2, rule -> x.holds(last, rule));
        }
        RateWires y = loaded("Mm00m00w011105w011205");
        arguments("rates that do not agree", 0, 2, rule -> y.holds(1, rule));
    }

    private static void holdsAtATime() {
        sentence("Returns the most marks that are on it at a time in a round by this rule (before it, behind each work)");
        RateWires x = loaded("Mm00m00w011206");
        same("behind the second work", 8, x.holds(0, 0));
        same("before it", 6, x.holds(0, 1));
        same("behind the first work", 7, x.holds(0, 2));
        x.lay(1, 0, 2, 1, 90);
        x.lay(0, 0, 6, 6, 50);
        same("before it, and behind the last work", 90, x.holds(1, 0));
        same("the lowest one works first: before it", 90, x.holds(1, 1));
        same("behind the second work, of 1", 91, x.holds(1, 2));
        for (int rule = 0; rule <= 2; rule++) {
            same("used before they come: never more", 50, x.holds(2, rule));
            same("none before, 6 behind", 6, loaded("Mm00m00w016600").holds(0, rule));
        }
        same("60 times 6 come before one is used", 99 + 360, loaded("Mm00m00m00m00m00w016699w021600w231500w341200").holds(0, 0));
        RateWires y = loaded("Mm00m00w016199");
        for (int i = 0; i < 149; i++) {
            y.work(0);
        }
        same("993 before it, 999 behind a work", 999, y.holds(0, 0));
        same("1 uses six first: before it", 993, y.holds(0, 1));
    }

    private static void holdsAlsoIfItSticks() {
        sentence("holds: also if it sticks; NONE if the rates do not agree");
        for (int rule = 0; rule <= 2; rule++) {
            RateWires x = loaded("Mm00m00w012300w103203");
            same("it sticks behind one work", 1, x.sticks(rule));
            same("behind that", 2, x.holds(0, rule));
            same("before that", 3, x.holds(1, rule));
            x.put(1, 1);
            same("it sticks at once", 0, x.sticks(rule));
            same("before that", 0, x.holds(0, rule));
            same("before that", 1, x.holds(1, rule));
            x.lay(0, 1, 1, 1, 7);
            for (int w = 0; w < 3; w++) {
                same("rates that do not agree", -1, x.holds(w, rule));
            }
            RateWires y = loaded("Mm00m00" + "w011150".repeat(13) + "w001103");
            for (int w = 0; w < 14; w++) {
                same("it does not stick", w < 13 ? rule == 1 ? 50 : 51 : 3, y.holds(w, rule));
            }
            y.cut(13);
            y.lay(0, 0, 2, 2, 1);
            for (int w = 0; w < 13; w++) {
                y.put(w, w);
            }
            same("0 lacks marks, and so does 1", 0, y.sticks(rule));
            for (int w = 0; w < 13; w++) {
                same("no more than before it, with many wires", w, y.holds(w, rule));
            }
            same("nor on the last one", 1, y.holds(13, rule));
        }
    }

    // ---- 20

    private static void rulesHold(String plan, int best, int... due) {
        RateWires x = loaded(plan);
        for (int rule = 0; rule <= 2; rule++) {
            int sum = 0;
            for (int w = 0; w < x.about(1); w++) {
                sum += x.holds(w, rule);
            }
            same("all wires of " + plan + " by " + rule, due[rule], sum);
        }
        same("the best rule of " + plan, best, x.bestRule());
    }

    private static void bestRuleFewest() {
        sentence("Returns the rule by which a round is complete, and the wires must hold fewest marks, holds() of all together, of several the lowest one");
        rulesHold("M", 0, 0, 0, 0);
        rulesHold("Mm00m00", 0, 0, 0, 0);
        rulesHold("Mm00m00w102302", 0, 4, 4, 4);
        rulesHold("Mm00m00m00w103205", 0, 5, 5, 7);
        rulesHold("Mm00m00m00w013101w211302", 0, 7, 11, 7);
        rulesHold("Mm00m00m00w223308w223305w201100w013207", 0, 21, 22, 23);
        rulesHold("Mm00m00m00w103301w202308", 0, 12, 18, 14);
        rulesHold("Mm00m00w013306", 1, 9, 6, 9);
        rulesHold("Mm00m00m00w021102w102201", 1, 6, 5, 5);
        rulesHold("Mm00m00w001105w111105w011206", 1, 18, 16, 17);
        rulesHold("Mm00m00m00w022308", 1, 14, 8, 10);
        rulesHold("Mm00m00m00w121100w021305", 2, 9, 9, 7);
        rulesHold("Mm00m00m00w022301w123101", 2, 26, 19, 10);
        rulesHold("Mm00m00m00w211204w013201", 2, 11, 14, 9);
    }

    private static void bestRuleNone() {
        sentence("bestRule: NONE if by none it is complete, or the rates do not agree");
        RateWires x = loaded("Mm00m00w012300w103203");
        same("it sticks", -1, x.bestRule());
        x.put(1, 4);
        same("it does not", 0, x.bestRule());
        x.lay(1, 1, 5, 5, 4);
        same("it sticks again", -1, x.bestRule());
        x.cut(2);
        x.lay(1, 1, 5, 6, 99);
        same("rates that do not agree", -1, x.bestRule());
    }

    // ---- 21

    private static void fewestRefused() {
        sentence("fewest: Throws IndexOutOfBoundsException if there is no such wire");
        noIndex("no wires", () -> plain(2).fewest(0));
        for (int n = 1; n <= 14; n++) {
            RateWires x = loaded("Mm00" + "w001105".repeat(n));
            indexes("one of " + n, 0, n - 1, x::fewest);
        }
    }

    /** The wire 4 must hold as many marks as the works of 0 that the others need before 4 works. */
    private static RateWires longLoop(int rate, int marks) {
        RateWires x = loaded("Mm00m00m00m00m00w011600w121600w236100w346100");
        x.put(0, marks);
        x.lay(4, 0, rate, rate, 50);
        return x;
    }

    private static void fewestSmallest() {
        sentence("Returns the smallest number of marks on it, 0 to 99, with which a round by the rule 0 would be complete");
        same("0 would do", 0, longLoop(1, 36).fewest(4));
        for (int rate = 1; rate <= 6; rate++) {
            for (int marks = 0; marks <= 36; marks++) {
                int needed = rate * (36 - marks);
                same("rate " + rate + ", marks " + marks, needed <= 99 ? needed : NONE, longLoop(rate, marks).fewest(4));
            }
        }
        same("99 would do", 99, longLoop(3, 3).fewest(4));
        RateWires x = loaded("Mm00m00w011100w001101");
        same("a wire of no loop", 0, x.fewest(0));
        same("a wire to itself: what is used", 1, x.fewest(1));
        for (int rate = 1; rate <= 6; rate++) {
            RateWires y = plain(1);
            y.lay(0, 0, rate, rate, 99);
            same("a wire to itself", rate, y.fewest(0));
        }
        RateWires z = loaded("Mm00m00w011199w101199");
        for (int i = 0; i < 99; i++) {
            z.work(0);
        }
        same("198 that are there do not count", 1, z.fewest(0));
        same("they are there still", 198, z.wire(0, 4));
        same("with them none are needed here", 0, z.fewest(1));
    }

    private static void fewestNone() {
        sentence("fewest: NONE if there is none, or the rates do not agree");
        same("100 would do", -1, longLoop(4, 11).fewest(4));
        same("100 would do", -1, longLoop(5, 16).fewest(4));
        same("102 would do", -1, longLoop(3, 2).fewest(4));
        RateWires x = loaded("Mm00m00w012300w103203");
        same("4", 4, x.fewest(1));
        x.lay(0, 0, 2, 2, 1);
        same("another wire sticks", -1, x.fewest(1));
        same("also that without marks", -1, x.fewest(0));
        x.put(1, 4);
        same("which needs 2", 2, x.fewest(2));
        x.lay(0, 0, 2, 3, 99);
        for (int w = 0; w < 4; w++) {
            int wire = w;
            same("rates that do not agree", -1, x.fewest(wire));
        }
    }

    // ---- 22

    private static void agreesRefusedForWires() {
        sentence("agrees: Throws IndexOutOfBoundsException if there is no such wire");
        noIndex("no wires", () -> plain(2).agrees(0, 1));
        for (int n = 1; n <= 14; n++) {
            RateWires x = loaded("Mm00" + "w001105".repeat(n));
            indexes("one of " + n, 0, n - 1, w -> x.agrees(w, 1));
        }
    }

    private static void agreesRefusedForRates() {
        sentence("agrees: Throws IllegalArgumentException if comes is out of range");
        for (int n = 1; n <= 14; n++) {
            RateWires x = loaded("Mm00" + "w001105".repeat(n));
            int last = n - 1;
            arguments("the last of " + n, 1, 6, comes -> x.agrees(last, comes));
        }
    }

    private static void agreesSmallest() {
        sentence("Returns the smallest rate, 1 to 6, of marks that are used from it, with which all rates would agree, if comes marks came onto it");
        for (int comes = 1; comes <= 6; comes++) {
            same("the only wire: any would do", 1, loaded("Mm00m00w016500").agrees(0, comes));
            same("a wire to itself", comes, loaded("Mm00w005599").agrees(0, comes));
        }
        RateWires x = loaded("Mm00m00w011600w011100");
        same("rates that do not agree now", 0, x.about(4));
        same("6 for 1", 6, x.agrees(1, 1));
        same("1 for 1", 1, x.agrees(0, 1));
        same("6 for 6", 6, x.agrees(0, 6));
        same("the rates are as before", 6, x.wire(0, 3));
        same("the rates are as before", 1, x.wire(0, 2));
        RateWires y = loaded("Mm00m00m00m00w016100w125100w231200");
        same("180 and 90 works would be too many, 60 not", 3, y.agrees(2, 6));
        same("120 would be too many, 60 not", 2, y.agrees(2, 4));
        same("60 would not", 1, y.agrees(2, 2));
        same("30 would not", 1, y.agrees(2, 1));
    }

    private static void agreesNone() {
        sentence("agrees: NONE if there is none");
        RateWires x = loaded("Mm00m00w011600w011600");
        same("6 would do", 6, x.agrees(1, 1));
        for (int comes = 2; comes <= 6; comes++) {
            same("12 and more would do", -1, x.agrees(1, comes));
        }
        RateWires y = loaded("Mm00m00w012300w012300");
        same("one and a half would do", -1, y.agrees(1, 1));
        same("3", 3, y.agrees(1, 2));
        y.lay(0, 0, 1, 2, 9);
        same("another wire does not agree", -1, y.agrees(1, 2));
        same("which itself could", 4, y.agrees(2, 4));
        RateWires z = loaded("Mm00m00m00m00m00m00w016100w125100w232100w341100w452100");
        same("120 works of 5", 0, z.about(4));
        same("with half as many of 4 there would be 60", 2, z.agrees(3, 1));
        same("with half as many of 4 there would be 60", 6, z.agrees(3, 3));
        same("80 would be the fewest", -1, z.agrees(3, 4));
        same("120 would be the fewest", -1, z.agrees(3, 6));
    }
}
