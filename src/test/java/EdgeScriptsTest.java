/** The edges of scripts and simulations, promises 23 and 24: a test for each sentence. */
final class EdgeScriptsTest extends PlanCases {
    private EdgeScriptsTest() {
    }

    public static void main(String[] args) {
        numberRefused();
        scriptRefused();
        firstIsHighest();
        firstThatFails();
        onACopy();
        groupsThatLay();
        groupsThatCut();
        groupsThatPut();
        groupsThatWork();
        groupsThatGoRound();
        groupsThatAgree();
        groupsThatHold();
        groupsThatLimit();
        groupsThatCountWorks();
        otherGroups();
        otherDigits();
        turnsRefused();
        turnsOnACopy();
        turnsThatLay();
        turnsThatCut();
        turnsThatGoRound();
        turnsThatWork();
        turnsAreLeftOut();
        seeds();
        turnsOfManyKinds();
        at999Works();
        at999Marks();
        Checks.end("EdgeScriptsTest");
    }

    // ---- scripts

    private static void numberRefused() {
        sentence("runScript: Throws IllegalArgumentException if n is out of range");
        RateWires x = plain(1);
        arguments("n", 1, 3, n -> x.runScript(n, 0));
        arguments("n, with a script that succeeds", 1, 3, n -> x.runScript(n, 600000));
    }

    private static void scriptRefused() {
        sentence("runScript: or if script is negative or has more than 6 * n digits");
        RateWires x = plain(1);
        long end = 1;
        for (int n = 1; n <= 3; n++) {
            int number = n;
            end *= 1000000;
            long last = end - 1;
            same("no digits of " + n, 0, x.runScript(n, 0));
            same(6 * n + " digits", 0, x.runScript(n, last));
            noArgument("one digit more than " + 6 * n, () -> x.runScript(number, last + 1));
            noArgument("the longest one, n " + n, () -> x.runScript(number, Long.MAX_VALUE));
            noArgument("-1, n " + n, () -> x.runScript(number, -1));
            noArgument("the most negative one, n " + n, () -> x.runScript(number, Long.MIN_VALUE));
            noArgument("600000 and a minus, n " + n, () -> x.runScript(number, -600000));
            noArgument("its lowest digits succeed, n " + n, () -> x.runScript(number, 9000600000600000600L));
        }
        noArgument("two commands for n 1", () -> x.runScript(1, 600000600000L));
        noArgument("three commands for n 2", () -> x.runScript(2, 600000600000600000L));
        noArgument("32 bits of it are 600000", () -> x.runScript(1, (1L << 32) + 600000));
    }

    private static void firstIsHighest() {
        sentence("the first command is the highest group of the number (with zeros before it, if it has fewer digits)");
        RateWires x = loaded("Mm00m00w011103");
        same("laid, then cut", NONE, x.runScript(2, 101115200001L));
        same("cut, then laid", 0, x.runScript(2, 200001101115L));
        same("put, worked, limited", NONE, x.runScript(3, 300001400000800002L));
        same("worked, put, limited", NONE, x.runScript(3, 400000300001800001L));
        same("the first group is 000000", 0, x.runScript(2, 600000));
        same("the first group is 000001", 0, x.runScript(2, 1600000));
        same("two groups are 000000", 0, x.runScript(3, 600000));
        same("the last group is 000000", 1, x.runScript(2, 600000000000L));
        same("the one in the midst", 1, x.runScript(3, 600000000000600000L));
    }

    private static void firstThatFails() {
        sentence("Returns the index, from 0, of the first command that fails; NONE if all succeed");
        RateWires x = plain(1);
        long[] groups = {600000, 200000};
        for (int i = 0; i < 2; i++) {
            same("one", i == 1 ? 0 : -1, x.runScript(1, groups[i]));
            for (int j = 0; j < 2; j++) {
                same("two", i == 1 ? 0 : j == 1 ? 1 : -1, x.runScript(2, groups[i] * 1000000 + groups[j]));
                for (int k = 0; k < 2; k++) {
                    long script = (groups[i] * 1000000 + groups[j]) * 1000000 + groups[k];
                    same("three", i == 1 ? 0 : j == 1 ? 1 : k == 1 ? 2 : -1, x.runScript(3, script));
                }
            }
        }
    }

    private static void onACopy() {
        sentence("Runs a script on a copy of the state");
        RateWires x = loaded("Mm00m00w012305w103207f0");
        x.work(0);
        String before = told(x);
        long[] scripts = {100119200000300077L, 400000400001400000L, 500000500001500002L, 200000200000200000L, 101661300299400000L};
        for (long script : scripts) {
            x.runScript(3, script);
            unchanged("a script", x, before);
            same("its answer is the same again", x.runScript(3, script), x.runScript(3, script));
        }
        same("no script is remembered", 0, x.undo());
        noState("no more", x::undo);
    }

    private static void script(RateWires x, int group, boolean succeeds) {
        same("the group " + group, succeeds ? NONE : 0, x.runScript(1, group));
    }

    private static void groupsThatLay() {
        sentence("1 a b c u k: lay(a, b, c, u, k)");
        RateWires x = loaded("Mm01m10m00m00m00m00m00m10");
        same("all its numbers", NONE, x.runScript(3, 107239700009800009L));
        same("2 come", NONE, x.runScript(3, 107239400000700011L));
        same("no more", 2, x.runScript(3, 107239400000700012L));
        same("3 are used", NONE, x.runScript(3, 107239400007700006L));
        same("no fewer", 2, x.runScript(3, 107239400007700007L));
        for (int digit = 0; digit <= 9; digit++) {
            script(x, 102111 + 10000 * digit, digit >= 1 && digit <= 7);
            script(x, 120111 + 1000 * digit, digit == 0 || digit >= 2 && digit <= 6);
            script(x, 123019 + 100 * digit, digit >= 1 && digit <= 6);
            script(x, 123109 + 10 * digit, digit >= 1 && digit <= 6);
            script(x, 123110 + digit, true);
            script(x, 122110 + digit, digit >= 1);
        }
        for (int w = 0; w < 13; w++) {
            x.lay(2, 3, 1, 1, 1);
        }
        script(x, 123111, true);
        same("fourteen, not fifteen", 1, x.runScript(2, 123111123111L));
    }

    private static void groupsThatCut() {
        sentence("2 0 0 0 w w: cut(ww)");
        for (int n = 0; n <= 14; n++) {
            RateWires x = loaded("Mm00" + "w001105".repeat(n));
            for (int w = 0; w <= 99; w++) {
                script(x, 200000 + w, w < n);
            }
        }
        RateWires y = loaded("Mm00w001105w001107");
        same("the wire 0 and its marks are gone", NONE, y.runScript(2, 200000700007L));
        same("the wire 1 and its marks are gone", 1, y.runScript(2, 200001700006L));
        same("both", 2, y.runScript(3, 200001200000200000L));
    }

    private static void groupsThatPut() {
        sentence("3 0 w w n n: put(ww, nn)");
        for (int n = 0; n <= 14; n += 7) {
            RateWires x = loaded("Mm00m00" + "w011105".repeat(n));
            for (int w = 0; w <= 99; w++) {
                script(x, 300000 + 100 * w, w < n);
                script(x, 300099 + 100 * w, w < n);
            }
        }
        RateWires y = loaded("Mm00m00w011105w101100");
        same("so many are there", NONE, y.runScript(3, 300198700198800103L));
        same("no more", 1, y.runScript(3, 300198700199800103L));
        script(y, 300000, false);
        script(y, 300001, true);
        script(y, 300100, true);
        same("another wire has marks first", NONE, y.runScript(2, 300101300000L));
    }

    private static void groupsThatWork() {
        sentence("4 0 0 0 0 m: work(m)");
        for (int n = 0; n <= 8; n++) {
            RateWires x = plain(n);
            for (int m = 0; m <= 9; m++) {
                script(x, 400000 + m, m < n);
            }
        }
        RateWires y = loaded("Mm00m00w011200");
        script(y, 400001, false);
        same("one mark", 1, y.runScript(2, 400000400001L));
        same("two marks", NONE, y.runScript(3, 400000400000400001L));
    }

    private static void groupsThatGoRound() {
        sentence("5 0 0 0 0 r: round(r)");
        for (int r = 0; r <= 9; r++) {
            script(new RateWires(), 500000 + r, r <= 2);
            RateWires x = loaded("Mm00m00w012300w103205");
            script(x, 500000 + r, r <= 2);
            x.put(1, 3);
            script(x, 500000 + r, false);
            x.put(1, 99);
            x.lay(0, 0, 1, 2, 9);
            script(x, 500000 + r, false);
        }
        RateWires y = loaded("Mm00m00w012300");
        for (int rule = 0; rule <= 2; rule++) {
            long round = 500000 + rule;
            same("its works count", NONE, y.runScript(3, (round * 1000000 + 900003) * 1000000 + 900102));
            same("no more of 0", 1, y.runScript(2, round * 1000000 + 900004));
            same("no more of 1", 1, y.runScript(2, round * 1000000 + 900103));
            same("two rounds", NONE, y.runScript(3, (round * 1000000 + round) * 1000000 + 900006));
        }
    }

    private static void groupsThatAgree() {
        sentence("6 0 0 0 0 0: succeeds if the rates agree");
        script(new RateWires(), 600000, true);
        RateWires x = plain(4);
        script(x, 600000, true);
        x.lay(0, 1, 4, 1, 0);
        x.lay(1, 2, 4, 1, 0);
        script(x, 600000, true);
        same("48 works", NONE, x.runScript(2, 123310600000L));
        same("64 works", 1, x.runScript(2, 123410600000L));
        x.lay(0, 1, 1, 1, 0);
        script(x, 600000, false);
        same("a wire less", NONE, x.runScript(2, 200000600000L));
    }

    private static void groupsThatHold() {
        sentence("7 0 w w n n: succeeds if the wire ww holds at least nn marks");
        RateWires x = loaded("Mm00m00w011100w011101w011198w011199w016199");
        x.work(0);
        int[] marks = {1, 2, 99, 100, 105};
        for (int w = 0; w <= 99; w++) {
            for (int n = 0; n <= 99; n++) {
                script(x, 700000 + 100 * w + n, w < 5 && n <= marks[w < 5 ? w : 0]);
            }
        }
        x.put(0, 0);
        script(x, 700000, true);
        script(x, 700001, false);
    }

    private static void groupsThatLimit() {
        sentence("8 0 0 x y z: succeeds if at most xyz marks are on all wires together");
        RateWires x = new RateWires();
        script(x, 800000, true);
        x.addModule(0, 0);
        script(x, 800000, true);
        int sum = 0;
        for (int w = 0; w < 14; w++) {
            int marks = w == 10 ? 9 : w == 11 ? 1 : 99;
            x.lay(0, 0, 1, 1, marks);
            sum += marks;
            script(x, 800000 + Math.min(sum, 999), sum <= 999);
            script(x, 800000 + Math.min(sum, 1000) - 1, false);
            script(x, 800999, sum <= 999);
            script(x, 800000, false);
        }
    }

    private static void groupsThatCountWorks() {
        sentence("9 0 0 m n n: succeeds if the module m has worked at least nn times so far");
        RateWires x = plain(8);
        for (int m = 1; m < 8; m++) {
            for (int i = 0; i < (m == 1 ? 98 : m == 2 ? 99 : m == 3 ? 100 : m); i++) {
                x.work(m);
            }
        }
        int[] works = {0, 98, 99, 100, 4, 5, 6, 7};
        for (int m = 0; m <= 9; m++) {
            for (int n = 0; n <= 99; n++) {
                script(x, 900000 + 100 * m + n, m < 8 && n <= works[m & 7]);
            }
        }
        for (int m = 0; m <= 9; m++) {
            script(plain(3), 900000 + 100 * m, m < 3);
        }
    }

    private static void otherGroups() {
        sentence("commands with modules or wires that do not exist fail, and so does any other group");
        RateWires x = new RateWires();
        for (int group : new int[] {100111, 177669, 200000, 200013, 300000, 301399, 400000, 400007, 700000, 701399, 900000, 900700}) {
            script(x, group, false);
        }
        for (int group = 0; group <= 99999; group += group < 120 || group > 99900 ? 1 : 97) {
            script(x, group, false);
        }
    }

    private static void otherDigits() {
        sentence("(also one with another digit where a 0 is written)");
        otherDigits(loaded("M" + "m00".repeat(8) + "w011105".repeat(11)), 200010, 301005, 400007, 500002, 600000, 701005, 800055, 900700);
        otherDigits(loaded("Mm00m00w011100"), 200000, 300000, 400000, 500000, 600000, 700000, 800000, 900000);
    }

    /** Groups that succeed, but do no more with another digit where a 0 is written. */
    private static void otherDigits(RateWires x, int... fine) {
        String[] groups = {"2000..", "30....", "40000.", "50000.", "600000", "70....", "800...", "900..."};
        for (int g = 0; g < groups.length; g++) {
            script(x, fine[g], true);
            for (int place = 1, tens = 10000; place < 6; place++, tens /= 10) {
                for (int digit = 1; digit <= 9 && groups[g].charAt(place) == '0'; digit++) {
                    script(x, fine[g] + tens * digit, false);
                }
            }
        }
    }

    // ---- simulations

    /** The seed with which the first turn has this r. */
    private static long seedOf(long r, long lowest) {
        long inverse = 1;
        for (int i = 0; i < 6; i++) {
            inverse *= 2 - FACTOR * inverse;
        }
        return ((r << 33 | lowest) - SUMMAND) * inverse;
    }

    private static int oneTurn(RateWires x, long r) {
        int answer = x.simulate(seedOf(r, 0), 1);
        same("what is behind r does not count", answer, x.simulate(seedOf(r, (1L << 33) - 1), 1));
        return answer;
    }

    private static void turnsRefused() {
        sentence("simulate: Throws IllegalArgumentException if m is out of range (number of turns, 1 to 99)");
        arguments("no modules", 1, 99, m -> new RateWires().simulate(0, m));
        RateWires x = loaded("Mm00m00w012305");
        arguments("a plan", 1, 99, m -> x.simulate(-m, m));
    }

    private static void turnsOnACopy() {
        sentence("Simulates m turns on a copy of the state");
        RateWires x = loaded("Mm00m00w012305w103207f0");
        x.put(0, 9);
        String before = told(x);
        for (int seed = 0; seed < 20; seed++) {
            int answer = x.simulate(seed, 99);
            unchanged("a simulation", x, before);
            same("again", answer, x.simulate(seed, 99));
        }
        same("none is remembered", 0, x.undo());
        noState("no more", x::undo);
    }

    private static void turnsThatLay() {
        sentence("a is r / 8 % 8, b is r / 64 % 8. By r % 8: 0: lay(a, b, 1 + r / 512 % 3, 1 + r / 2048 % 3, r / 8192 % 8)");
        for (int n = 1; n <= 8; n++) {
            for (int a = 0; a < 8; a++) {
                for (int b = 0; b < 8; b++) {
                    int due = a < n && b < n ? 5 : 0;
                    same("from " + a + " to " + b + " of " + n, due, oneTurn(plain(n), 8 * a + 64 * b + 8192 * 5));
                }
            }
        }
        for (int marks = 0; marks < 20; marks++) {
            same("marks", marks % 8, oneTurn(plain(2), 8 + 8192 * marks));
        }
        RateWires x = loaded("Mm01m10m33m33m33m33m33m33");
        same("0 makes what 1 uses", 3, oneTurn(x, 8 * 0 + 64 * 1 + 8192 * 3));
        same("1 makes what 0 uses", 3, oneTurn(x, 8 * 1 + 64 * 0 + 8192 * 3));
        same("0 does not make what it uses", 0, oneTurn(x, 8192 * 3));
        same("the highest r: by 7 the module 7 works", 1000, oneTurn(plain(8), (1L << 31) - 1));
        same("the highest r with 0: from 7 to 7 with 7", 7, oneTurn(plain(8), (1L << 31) - 8));
    }

    private static void turnsThatCut() {
        sentence("1: cut(r / 512 % 14)");
        for (int n = 0; n <= 14; n++) {
            RateWires x = plain(1);
            int sum = 0;
            for (int w = 0; w < n; w++) {
                x.lay(0, 0, 1, 1, 20 + w);
                sum += 20 + w;
            }
            for (int w = 0; w < 28; w++) {
                same("cut(" + w % 14 + ") of " + n, w % 14 < n ? sum - 20 - w % 14 : sum, oneTurn(x, 1 + 512 * w));
                same("the digits between do not count", w % 14 < n ? sum - 20 - w % 14 : sum, oneTurn(x, 505 + 512 * w));
            }
        }
    }

    private static void turnsThatGoRound() {
        sentence("2: round(r / 512 % 3)");
        RateWires x = loaded("Mm00m00w012300");
        for (int rule = 0; rule < 9; rule++) {
            same("5 works", 5000, oneTurn(x, 2 + 512 * rule));
            same("the digits between do not count", 5000, oneTurn(x, 506 + 512 * rule));
        }
        RateWires y = loaded("Mm00m00w016199");
        for (int i = 0; i < 149; i++) {
            y.work(0);
        }
        same("a round near the limit", 7 * 1000 + 993, oneTurn(y, 2));
        y.lay(0, 0, 2, 2, 1);
        same("one that sticks", 994, oneTurn(y, 2 + 512));
        y.lay(1, 0, 1, 1, 0);
        same("rates that do not agree", 994, oneTurn(y, 2 + 1024));
        same("no modules", 0, oneTurn(new RateWires(), 2));
    }

    private static void turnsThatWork() {
        sentence("3 to 7: work(a)");
        for (int kind = 3; kind <= 7; kind++) {
            for (int m = 0; m < 8; m++) {
                RateWires x = plain(8);
                x.lay(m, (m + 1) % 8, 4, 5, 6);
                same("work(" + m + ")", 1010, oneTurn(x, kind + 8 * m));
                same("work(" + m + ")", 1010, oneTurn(x, kind + 8 * m + 64 * 9999));
                same("the module before it", 1006, oneTurn(x, kind + 8 * ((m + 7) % 8)));
                same("the module behind it", 1001, oneTurn(x, kind + 8 * ((m + 1) % 8)));
            }
        }
    }

    private static void turnsAreLeftOut() {
        sentence("What would throw an exception is left out");
        RateWires x = loaded("Mm00m00w011300w101304");
        same("a module that does not exist", 4, oneTurn(x, 3 + 8 * 2));
        same("one that cannot work", 4, oneTurn(x, 4 + 8));
        same("a wire that does not exist", 4, oneTurn(x, 1 + 512 * 2));
        same("a round that sticks", 4, oneTurn(x, 2));
        same("a dead loop", 4, oneTurn(x, 0));
        same("a fifteenth wire", 14 * 5, oneTurn(loaded("Mm00" + "w001105".repeat(14)), 8192 * 5));
        same("a fourteenth wire", 14 * 5, oneTurn(loaded("Mm00" + "w001105".repeat(13)), 8192 * 5));
        RateWires y = loaded("Mm00m00w016199");
        for (int i = 0; i < 150; i++) {
            y.work(0);
        }
        same("a wire that is full", 999, oneTurn(y, 3));
        for (int m = 1; m <= 99; m++) {
            same("all turns of no modules", 0, new RateWires().simulate(m, m));
        }
    }

    private static void seeds() {
        sentence("A long x starts as the seed. Each turn first replaces x by x * 6364136223846793005L + 1442695040888963407L (with long overflow)");
        for (long seed : new long[] {0, 1, -1, 2, -2, Long.MAX_VALUE, Long.MIN_VALUE, Integer.MAX_VALUE, Integer.MIN_VALUE, 1L << 32, -1L << 33}) {
            for (int m : new int[] {1, 2, 3, 50, 98, 99}) {
                compare("M" + "m00".repeat(8) + "w012105w123207w302109w441101", seed, m);
            }
        }
    }

    private static int compare(String plan, long seed, int m) {
        int[] due = turns(plan, seed, m);
        same("simulate(" + seed + ", " + m + ") of " + plan, toldOf(due), loaded(plan).simulate(seed, m));
        return due[0];
    }

    private static void turnsOfManyKinds() {
        sentence("simulate: Returns 1000 * (the works in them ...) + (the marks on all wires together at the end ...)");
        String[] plans = {"Mm00m00m00", "M" + "m00".repeat(8), "Mm01m10m01m10m01m10m01m10w011203", "Mm00m00w012305w103299f0f0", "Mm00m00m00m00m00w001103w112204w223305w331106w442207"};
        for (String plan : plans) {
            for (int seed = 0; seed < 60; seed++) {
                compare(plan, seed * 0x9E3779B97F4A7C15L, 1 + seed * 7 % 99);
            }
        }
    }

    private static void at999Works() {
        sentence("1000 * (the works in them, or 999 if more)");
        String plan = "Mm01m12m23m30m32m32m32m32w016199w125199w232199";
        long[] seeds = {3674, 789, 1500, 792, 3726};
        for (int i = 0; i < seeds.length; i++) {
            same("works with the seed " + seeds[i], 997 + i, compare(plan, seeds[i], 99));
            same("works that are told", Math.min(997 + i, 999), loaded(plan).simulate(seeds[i], 99) / 1000);
        }
    }

    private static void at999Marks() {
        sentence("(the marks on all wires together at the end, or 999 if more)");
        long nothing = seedOf(3 + 8 * 7, 0);
        RateWires x = loaded("Mm00m00" + "w011199".repeat(11));
        for (int marks = 0; marks <= 20; marks++) {
            x.put(10, marks);
            same("marks", Math.min(990 + marks, 999), x.simulate(nothing, 1));
        }
        x.lay(0, 1, 6, 1, 99);
        same("many more", 999, x.simulate(nothing, 1));
        same("and a work", 1999, x.simulate(seedOf(3, 0), 1));
    }
}
