/** The edges of what the document's terms say of modules, wires, loops and rounds: a test for each sentence. */
final class EdgeTermsTest extends PlanCases {
    private EdgeTermsTest() {
    }

    public static void main(String[] args) {
        modulesAreEight();
        kindsAreFour();
        wiresAreFourteen();
        cutWiresLetOthersMoveUp();
        wiresToTheSameModule();
        marksOfWires();
        kindsOfWires();
        ratesOfWires();
        severalWires();
        enoughMarksToWork();
        usedBeforeTheyCome();
        atMost999();
        rowsThatAreLoops();
        deadLoops();
        ratesThatAgree();
        smallestWorks();
        partsByThemselves();
        partsInAnyDirection();
        sixtyWorks();
        tooManyWorks();
        worksOfThisRound();
        lowestFirst();
        fewestMarksFirst();
        fewestMarksOfSeveral();
        firstOneBehind();
        completeRounds();
        roundsThatStick();
        the512thCall();
        Checks.end("EdgeTermsTest");
    }

    // ---- modules and wires

    private static void modulesAreEight() {
        sentence("There are at most 8 modules, numbered from 0 in the order in which they were added");
        RateWires x = new RateWires();
        for (int m = 0; m < 8; m++) {
            same("number", m, x.addModule(m % 4, 3 - m / 2));
        }
        noState("a ninth", () -> x.addModule(0, 0));
        same("modules", 8, x.about(0));
        for (int m = 0; m < 8; m++) {
            same("uses of " + m, m % 4, x.module(m, 0));
            same("makes of " + m, 3 - m / 2, x.module(m, 1));
        }
        same("undo of the eighth", 7, x.undo());
        same("now one more is allowed", 7, x.addModule(0, 0));
        noState("but not two", () -> x.addModule(0, 0));
    }

    private static void kindsAreFour() {
        sentence("each uses one kind of signals and makes one kind (0 to 3, perhaps the same)");
        arguments("uses", 0, 3, kind -> new RateWires().addModule(kind, 0));
        arguments("makes", 0, 3, kind -> new RateWires().addModule(0, kind));
        for (int kind = 0; kind <= 3; kind++) {
            RateWires x = new RateWires();
            same("the same kind", 0, x.addModule(kind, kind));
            same("used", kind, x.module(0, 0));
            same("made", kind, x.module(0, 1));
        }
    }

    private static void wiresAreFourteen() {
        sentence("There are at most 14 wires, numbered from 0 in the order in which they were laid");
        RateWires x = plain(2);
        for (int w = 0; w < 14; w++) {
            same("number", w, x.lay(0, 1, 1, 1, 50 - w));
        }
        noState("a fifteenth", () -> x.lay(0, 1, 1, 1, 1));
        same("wires", 14, x.about(1));
        for (int w = 0; w < 14; w++) {
            same("marks on " + w, 50 - w, x.wire(w, 4));
        }
        x.cut(3);
        same("one less, one more", 13, x.lay(0, 1, 1, 1, 7));
        noState("but not two", () -> x.lay(0, 1, 1, 1, 1));
    }

    private static void cutWiresLetOthersMoveUp() {
        sentence("if one is cut, those behind it get numbers that are smaller by 1");
        for (int gone = 0; gone < 14; gone++) {
            RateWires x = plain(8);
            for (int w = 0; w < 14; w++) {
                x.lay(w % 8, (w + 1) % 8, 1 + w % 6, 6 - w % 5, 20 + w);
            }
            same("the marks of " + gone, 20 + gone, x.cut(gone));
            for (int w = 0; w < 13; w++) {
                int old = w < gone ? w : w + 1;
                String what = "wire " + w + " behind cut(" + gone + "), ";
                same(what + "from", old % 8, x.wire(w, 0));
                same(what + "to", (old + 1) % 8, x.wire(w, 1));
                same(what + "comes", 1 + old % 6, x.wire(w, 2));
                same(what + "used", 6 - old % 5, x.wire(w, 3));
                same(what + "marks", 20 + old, x.wire(w, 4));
            }
            noIndex("wire 13", () -> x.wire(13, 4));
        }
    }

    private static void wiresToTheSameModule() {
        sentence("A wire leads from a module to a module (perhaps the same one)");
        RateWires x = plain(8);
        for (int m = 0; m < 8; m++) {
            same("number", m, x.lay(m, m, 2, 2, 2));
            same("from", m, x.wire(m, 0));
            same("to", m, x.wire(m, 1));
            same("one leads to it", 1, x.module(m, 4));
            same("one leads from it", 1, x.module(m, 5));
        }
    }

    private static void marksOfWires() {
        sentence("and holds marks (0 to 99)");
        arguments("laid", 0, 99, marks -> plain(2).lay(0, 1, 1, 1, marks));
        arguments("put", 0, 99, marks -> loaded("Mm00m00w011150").put(0, marks));
        RateWires x = plain(2);
        for (int marks : new int[] {0, 1, 98, 99}) {
            same("is held: " + marks, marks, x.wire(x.lay(0, 1, 1, 1, marks), 4));
            x.put(0, marks);
            same("is held then: " + marks, marks, x.wire(0, 4));
        }
    }

    private static void kindsOfWires() {
        sentence("its kind is what the first one makes, and the second one uses");
        for (int kinds = 0; kinds < 256; kinds++) {
            RateWires x = new RateWires();
            x.addModule(kinds & 3, kinds >> 2 & 3);
            x.addModule(kinds >> 4 & 3, kinds >> 6);
            if ((kinds >> 2 & 3) == (kinds >> 4 & 3)) {
                same("kinds that are the same", 0, x.lay(0, 1, 1, 1, 1));
            } else {
                noState("kinds " + kinds, () -> x.lay(0, 1, 1, 1, 1));
            }
        }
        RateWires y = loaded("Mm01m22");
        noState("a module that makes another kind than it uses", () -> y.lay(0, 0, 1, 1, 1));
        same("one that makes what it uses", 0, y.lay(1, 1, 1, 1, 1));
    }

    private static void ratesOfWires() {
        sentence("It has two rates, from 1 to 6");
        arguments("comes", 1, 6, rate -> plain(2).lay(0, 1, rate, 1, 0));
        arguments("used", 1, 6, rate -> plain(2).lay(0, 1, 1, rate, 0));
        for (int comes = 1; comes <= 6; comes++) {
            for (int used = 1; used <= 6; used++) {
                RateWires x = plain(2);
                x.lay(0, 1, comes, used, 10);
                same("how many come", 10 + comes, x.work(0));
                same("how many are used", 10 + comes - used, x.work(1));
            }
        }
    }

    private static void severalWires() {
        sentence("There may be several wires from one module to another one");
        RateWires x = plain(2);
        for (int w = 0; w < 14; w++) {
            same("one more", w, x.lay(0, 1, 3, 2, 2));
        }
        same("all lead from it", 14, x.module(0, 5));
        same("all lead to it", 14, x.module(1, 4));
        same("marks come onto all", 14 * 5, x.work(0));
        same("they are used from all", 14 * 3, x.work(1));
    }

    private static void enoughMarksToWork() {
        sentence("A module can work if each wire that leads to it holds as many marks as are used there");
        same("no wires", 0, plain(1).work(0));
        for (int used = 1; used <= 6; used++) {
            RateWires x = plain(3);
            x.lay(0, 1, 1, used, used - 1);
            x.lay(2, 1, 1, 6, 6);
            x.lay(1, 2, 1, 6, 0);
            noState("one mark too few", () -> x.work(1));
            same("only 0 can", 1, x.about(7));
            x.put(0, used);
            x.put(1, 5);
            noState("too few on the other one", () -> x.work(1));
            same("only 0 can", 1, x.about(7));
            x.put(1, 6);
            same("as many on both", 3, x.about(7));
            same("all are used", 1, x.work(1));
            same("none is left", 0, x.wire(0, 4) + x.wire(1, 4));
            noState("none to use", () -> x.work(1));
        }
    }

    private static void usedBeforeTheyCome() {
        sentence("When it works, these are used first, and then marks come onto the wires that lead from it");
        RateWires x = plain(1);
        x.lay(0, 0, 6, 3, 2);
        noState("what will come cannot be used", () -> x.work(0));
        x.put(0, 3);
        same("used, then come", 6, x.work(0));
        RateWires y = plain(1);
        y.lay(0, 0, 6, 1, 94);
        for (int i = 0; i < 180; i++) {
            y.work(0);
        }
        same("nearly full", 994, y.wire(0, 4));
        same("0 can work", 1, y.about(7));
        same("there is place, as one is used first", 999, y.work(0));
        noState("998 and 6 are too many", () -> y.work(0));
        same("0 cannot work", 0, y.about(7));
    }

    private static void atMost999() {
        sentence("at most 999 may be on a wire, otherwise it cannot work");
        for (int comes = 2; comes <= 6; comes++) {
            for (int marks : new int[] {99, 98}) {
                RateWires x = plain(3);
                x.lay(0, 1, comes, 1, marks);
                x.lay(0, 2, 1, 1, 0);
                int works = (999 - marks) / comes;
                for (int i = 0; i < works; i++) {
                    x.work(0);
                }
                int held = marks + works * comes;
                same("the last that fit", held, x.wire(0, 4));
                same("1 and 2 can work", 6, x.about(7));
                noState("one work more", () -> x.work(0));
                same("it is as it was", held, x.wire(0, 4));
                same("the other wire too", works, x.wire(1, 4));
                same("nor has it worked", works, x.module(0, 2));
                for (int i = held + comes - 999; i > 0; i--) {
                    noState("still", () -> x.work(0));
                    x.work(1);
                }
                same("now there is place", 7, x.about(7));
                x.work(0);
                same("so that it is full", 999, x.wire(0, 4));
            }
        }
    }

    // ---- loops

    private static void rowsThatAreLoops() {
        sentence("A loop is a row of one or more wires, each of which begins at the module to which the one before it leads, "
                + "and the first one at the module to which the last one leads");
        for (int n = 1; n <= 8; n++) {
            RateWires x = plain(8);
            for (int m = 0; m + 1 < n; m++) {
                x.lay(m, m + 1, 1, 1, 0);
                x.lay(0, m + 1, 1, 1, 0);
            }
            same("no loop is of " + n, 0, x.about(8));
            if (n == 8) {
                x.cut(13);
            } else {
                x.lay(n - 1, 7, 1, 1, 0);
            }
            x.lay(n - 1, 0, 1, 1, 1);
            same("a loop of " + n, (1 << n) - 1, x.about(8));
        }
        RateWires y = plain(6);
        y.lay(0, 1, 1, 1, 0);
        y.lay(0, 2, 1, 1, 0);
        y.lay(1, 3, 1, 1, 0);
        y.lay(2, 3, 1, 1, 0);
        same("two ways from 0 to 3 are none", 0, y.about(8));
        y.lay(4, 0, 1, 1, 0);
        y.lay(3, 5, 1, 1, 0);
        y.lay(3, 1, 1, 1, 1);
        same("only those between which ways lead both ways", 2 + 8, y.about(8));
        y.lay(5, 5, 1, 1, 1);
        same("and one with a wire to itself", 2 + 8 + 32, y.about(8));
    }

    private static void deadLoops() {
        sentence("It is dead if no wire of it holds marks");
        for (int n = 1; n <= 8; n++) {
            RateWires x = plain(8);
            for (int m = 0; m + 1 < n; m++) {
                x.lay(m, m + 1, 1, 1, 0);
            }
            int last = n - 1;
            noState("a dead loop of " + n, () -> x.lay(last, 0, 1, 1, 0));
            for (int w = 0; w < last; w++) {
                int one = w;
                x.put(w, 1);
                same("one mark on " + w + " of " + n, last, x.lay(last, 0, 1, 1, 0));
                noState("the only mark", () -> x.put(one, 0));
                same("one more", 0, x.put(last, 1));
                same("so that this one may go", 1, x.put(w, 0));
                x.cut(last);
            }
            same("one mark on the last one", last, x.lay(last, 0, 1, 1, 1));
            noState("it must stay", () -> x.put(last, 0));
            same("fewer would be none", 1, x.put(last, 2));
        }
    }

    // ---- rounds

    private static void due(String what, RateWires x, int... works) {
        int sum = 0;
        for (int m = 0; m < works.length; m++) {
            same(what + ", works of " + m, works[m], x.module(m, 3));
            sum += works[m];
        }
        same(what + ", modules", works.length, x.about(0));
        same(what + ", works", sum, x.about(6));
        same(what + ", they agree", 1, x.about(4));
        same(what + ", for a script", NONE, x.runScript(1, 600000));
    }

    private static void disagree(String what, RateWires x) {
        same(what + ", they do not agree", 0, x.about(4));
        same(what + ", works", NONE, x.about(6));
        for (int m = 0; m < x.about(0); m++) {
            same(what + ", works of " + m, NONE, x.module(m, 3));
        }
        for (int rule = 0; rule <= 2; rule++) {
            int r = rule;
            same(what + ", order", NONE, x.order(rule, 0));
            same(what + ", sticks", NONE, x.sticks(rule));
            noState(what + ", round", () -> x.round(r));
            for (int w = 0; w < x.about(1); w++) {
                same(what + ", holds", NONE, x.holds(w, rule));
            }
        }
        for (int w = 0; w < x.about(1); w++) {
            same(what + ", fewest", NONE, x.fewest(w));
        }
        same(what + ", bestRule", NONE, x.bestRule());
        same(what + ", for a script", 0, x.runScript(1, 600000));
        same(what + ", a round of a script", 0, x.runScript(1, 500000));
    }

    private static void ratesThatAgree() {
        sentence("The rates agree if there are numbers of works, 1 or more for each module, so that on each wire as many marks come as are used");
        due("no modules", new RateWires());
        due("no wires", plain(8), 1, 1, 1, 1, 1, 1, 1, 1);
        for (int comes = 1; comes <= 6; comes++) {
            for (int used = 1; used <= 6; used++) {
                RateWires x = plain(2);
                x.lay(0, 0, comes, used, 99);
                if (comes == used) {
                    due("a wire to itself", x, 1, 1);
                } else {
                    disagree("a wire to itself, works of 0 do not count", x);
                }
                for (int more = 1; more <= 6; more++) {
                    RateWires y = plain(2);
                    y.lay(0, 1, comes, used, 99);
                    y.lay(0, 1, more, 3, 99);
                    same("two wires", comes * 3 == more * used ? 1 : 0, y.about(4));
                    y.cut(1);
                    y.lay(1, 0, more, 3, 99);
                    same("and back", comes * more == 3 * used ? 1 : 0, y.about(4));
                }
            }
        }
        RateWires z = loaded("Mm00m00m00w012199w121299w201199");
        due("a loop", z, 1, 2, 1);
        z.cut(2);
        z.lay(2, 0, 1, 2, 99);
        disagree("a loop on which marks get fewer", z);
    }

    private static void smallestWorks() {
        sentence("The works of a round are then the smallest such numbers");
        for (int comes = 1; comes <= 6; comes++) {
            for (int used = 1; used <= 6; used++) {
                int common = 1;
                for (int i = 2; i <= 6; i++) {
                    common = comes % i == 0 && used % i == 0 ? i : common;
                }
                RateWires x = plain(2);
                x.lay(0, 1, comes, used, 0);
                due(comes + " come, " + used + " are used", x, used / common, comes / common);
            }
        }
        RateWires y = plain(4);
        y.lay(0, 1, 1, 2, 0);
        y.lay(1, 2, 1, 2, 0);
        y.lay(2, 3, 1, 2, 0);
        due("8 behind 1", y, 8, 4, 2, 1);
        RateWires z = plain(4);
        z.lay(2, 0, 3, 2, 0);
        z.lay(2, 1, 3, 5, 0);
        z.lay(3, 2, 6, 6, 0);
        due("10 that is used by 2 and by 5", z, 15, 6, 10, 10);
        z.cut(2);
        z.lay(2, 3, 3, 6, 0);
        due("nor more for one that needs no more", z, 15, 6, 10, 5);
    }

    private static void partsByThemselves() {
        sentence("for each part of modules that hang together by wires (...) by itself");
        RateWires x = plain(8);
        x.lay(0, 4, 2, 3, 0);
        x.lay(1, 5, 5, 4, 0);
        x.lay(2, 6, 6, 6, 0);
        due("four parts and one", x, 3, 4, 1, 1, 2, 5, 1, 1);
        same("parts", 5, x.about(5));
        x.lay(5, 4, 1, 5, 0);
        due("two of them hang together", x, 3, 8, 1, 1, 2, 10, 1, 1);
    }

    private static void partsInAnyDirection() {
        sentence("(in whatever direction; a module without wires is a part by itself)");
        same("none", 0, new RateWires().about(5));
        for (int n = 1; n <= 8; n++) {
            RateWires x = plain(n);
            same("without wires", n, x.about(5));
            x.lay(n - 1, n - 1, 1, 1, 1);
            same("a wire to itself joins nothing", n, x.about(5));
            for (int m = n - 1; m > 0; m--) {
                int a = m % 2 == 0 ? m : m - 1;
                x.lay(a, m + m - 1 - a, 2, 1, 0);
                same("one less", m, x.about(5));
            }
            for (int m = 0; m < n; m++) {
                same("directions in turns", m % 2 == 0 ? 1 : 2, x.module(m, 3));
            }
        }
        RateWires y = plain(8);
        y.lay(7, 3, 1, 1, 0);
        y.lay(5, 3, 1, 1, 0);
        y.lay(5, 0, 1, 1, 0);
        y.lay(7, 0, 1, 1, 0);
        same("0, 3, 5, 7 and four others", 5, y.about(5));
        y.cut(1);
        same("still", 5, y.about(5));
        y.cut(1);
        same("5 is alone", 6, y.about(5));
    }

    /** Modules of which each works so many times as often as the one before it (or the other way round), by wires in any direction. */
    private static RateWires chain(boolean rising, boolean upwards, int... times) {
        RateWires x = plain(times.length + 1);
        for (int i = 0; i < times.length; i++) {
            int low = rising ? 1 : times[i];
            int high = rising ? times[i] : 1;
            if (upwards) {
                x.lay(i, i + 1, high, low, 0);
            } else {
                x.lay(i + 1, i, low, high, 0);
            }
        }
        return x;
    }

    private static void sixtyWorks() {
        sentence("They are told if they are at most 60 for each module");
        for (boolean upwards : new boolean[] {true, false}) {
            due("60 of the last one", chain(true, upwards, 6, 5, 2), 1, 6, 30, 60);
            due("60 of the first one", chain(false, upwards, 3, 5, 4), 60, 20, 4, 1);
        }
        RateWires x = plain(6);
        x.lay(0, 2, 4, 1, 0);
        x.lay(1, 2, 3, 1, 0);
        x.lay(2, 3, 1, 5, 0);
        due("60 for 4, 3 and 5", x, 15, 20, 60, 12, 1, 1);
        x.lay(2, 4, 1, 6, 0);
        x.lay(5, 2, 2, 1, 0);
        due("60 for 6 and 2 too", x, 15, 20, 60, 12, 10, 30);
    }

    private static void tooManyWorks() {
        sentence("otherwise the rates count as not agreeing");
        for (boolean upwards : new boolean[] {true, false}) {
            disagree("64 of the last one", chain(true, upwards, 4, 4, 4));
            disagree("64 of the first one", chain(false, upwards, 4, 4, 4));
            disagree("72 of the last one", chain(true, upwards, 6, 6, 2));
            disagree("72 of the first one", chain(false, upwards, 2, 6, 6));
            disagree("far too many of the last one", chain(true, upwards, 6, 6, 6, 6, 6, 6, 6));
            disagree("far too many of the first one", chain(false, upwards, 6, 6, 6, 6, 6, 6, 6));
        }
        RateWires x = chain(true, true, 4, 4);
        x.addModule(0, 0);
        x.addModule(0, 0);
        x.lay(4, 3, 1, 4, 0);
        due("16 and 4", x, 1, 4, 16, 1, 4);
        x.lay(2, 4, 4, 1, 0);
        disagree("64 in the midst", x);
        x.cut(3);
        due("as before", x, 1, 4, 16, 1, 4);
        RateWires y = plain(8);
        for (int m = 0; m < 7; m++) {
            y.lay(m, m + 1, 6, 5, 99);
        }
        disagree("5 to the 7th and 6 to the 7th", y);
        for (int w = 0; w < 6; w++) {
            y.cut(0);
        }
        due("5 and 6", y, 1, 1, 1, 1, 1, 1, 5, 6);
    }

    /** 0 works twice for 1, and 2 three times for 3; all of them can begin. */
    private static RateWires fourWithMarks() {
        return loaded("Mm00m00m00m00w011299w231399");
    }

    private static void worksOfThisRound() {
        sentence("as long as some module has worked less often than it must in this round, and can work, one of these works");
        RateWires x = fourWithMarks();
        for (int again = 0; again < 3; again++) {
            orderIs("those that worked before", x, 0, "0012223");
            x.work(3);
            x.work(0);
            x.round(again);
        }
        same("works of 0", 9, x.module(0, 2));
        same("works of 3", 6, x.module(3, 2));
        RateWires y = loaded("Mm00m00m00w102100w121100w021200");
        orderIs("0 and 2 must, but cannot", y, 0, "1002");
        y.put(0, 1);
        orderIs("0 has one mark only", y, 0, "0102");
        y.put(0, 2);
        orderIs("0 has enough", y, 0, "0012");
    }

    private static void lowestFirst() {
        sentence("by the rule 0 the lowest one");
        orderIs("all can", plain(8), 0, "01234567");
        orderIs("all can often", fourWithMarks(), 0, "0012223");
        orderIs("0 as soon as it can, then 3", loaded("Mm00m00m00m00w201200w311100"), 0, "22031");
    }

    private static void fewestMarksFirst() {
        sentence("by 1 the one behind whose work the fewest marks are on all wires together");
        orderIs("3 uses most", fourWithMarks(), 1, "3100222");
        RateWires x = loaded("Mm00m00m00m00w021100w031100w121100");
        orderIs("0 makes marks on two wires, 1 on one", x, 1, "1023");
        orderIs("but 0 is the lowest one", x, 0, "0123");
        RateWires y = loaded("Mm00m00m00w021110w125550w205598");
        orderIs("0 leaves 4 less, 1 leaves 5 more, 2 leaves 1 less", y, 1, "021");
    }

    private static void fewestMarksOfSeveral() {
        sentence("of several the lowest one");
        orderIs("all leave as many", plain(8), 1, "01234567");
        orderIs("1 and 2 leave as many", loaded("Mm00m00m00w012199w022199"), 1, "11220");
        orderIs("0 and 2 leave as many", loaded("Mm00m00m00w103199w123199"), 1, "0002221");
    }

    private static void firstOneBehind() {
        sentence("by 2 the first one of those behind the one that worked last in this round "
                + "(the module 0 behind the last one; at first beginning with the module 0)");
        orderIs("all can", plain(8), 2, "01234567");
        RateWires x = fourWithMarks();
        orderIs("in turns, as long as they must", x, 2, "0123022");
        x.work(1);
        orderIs("who worked before the round does not count", x, 2, "0123022");
        x.round(2);
        orderIs("nor who worked in the round before", x, 2, "0123022");
        RateWires y = loaded("Mm00m00w102100m00");
        orderIs("0 cannot at first, then comes behind 2", y, 2, "1200");
        orderIs("only the last one at first", loaded("Mm00m00m00w201100w211100"), 2, "201");
        orderIs("the same one again, if no other can", loaded("Mm00m00w011300"), 2, "0001");
    }

    private static void completeRounds() {
        sentence("If all have worked as often as they must, the round is complete");
        for (int rule = 0; rule <= 2; rule++) {
            same("no modules", NONE, new RateWires().sticks(rule));
            same("its works", 0, new RateWires().round(rule));
            RateWires x = plain(8);
            for (int m = 1; m <= 4; m++) {
                x.lay(0, m, 1, 1, 0);
            }
            x.lay(0, 5, 3, 4, 0);
            x.lay(0, 6, 4, 5, 0);
            x.lay(0, 7, 5, 6, 0);
            due("the most works", x, 60, 60, 60, 60, 60, 45, 48, 50);
            same("it does not stick", NONE, x.sticks(rule));
            Checks.isTrue("the last work", x.order(rule, 442) > 0);
            same("there are no more", NONE, x.order(rule, 443));
            same("works", 443, x.round(rule));
            same("all marks are used", 0, x.about(2));
            same("works of 6", 48, x.module(6, 2));
        }
    }

    private static void roundsThatStick() {
        sentence("if there is none that can work, it sticks");
        for (int rule = 0; rule <= 2; rule++) {
            int r = rule;
            RateWires x = loaded("Mm00m00w012201w102201");
            same("at once", 0, x.sticks(rule));
            noState("round", () -> x.round(r));
            x.addModule(0, 0);
            same("behind one that can always work, but must no more", 1, x.sticks(rule));
            noState("round", () -> x.round(r));
            x.put(1, 2);
            same("behind none", NONE, x.sticks(rule));
            same("round", 3, x.round(rule));
            RateWires y = loaded("Mm00m00m00w011600w121100w206105");
            same("behind 5 of 6 works of 0", 5, y.sticks(rule));
            y.put(2, 6);
            same("with one mark more behind none", NONE, y.sticks(rule));
        }
    }

    private static void the512thCall() {
        sentence("An object is used for at most 512 calls after it has been made");
        RateWires x = new RateWires();
        x.addModule(0, 0);
        x.addModule(0, 0);
        x.lay(0, 1, 1, 1, 0);
        for (int call = 4; call <= 509; call++) {
            same("the call " + call, call - 3, x.work(0));
        }
        same("the call 510", 13, x.undo());
        same("the call 511", 506, x.work(0));
        same("the call 512", 506, x.about(3));
    }
}
