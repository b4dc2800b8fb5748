import java.util.Random;

/** Random runs of calls, the same for the class and the model; every answer and exception must be the same. */
final class ModelTest {
    private static final String[] CALLS = {
        "append", "clearText", "errorPosition", "load", "about", "module", "wire", "between", "addModule", "lay", "cut",
        "put", "work", "round", "undo", "order", "sticks", "holds", "bestRule", "fewest", "agrees", "runScript",
        "simulate", "save", "restore"};
    /** How often each call comes, in three moods: building, asking, working. */
    private static final int[][] WEIGHTS = {
        {0, 0, 1, 1, 4, 4, 3, 3, 10, 40, 3, 6, 8, 4, 4, 2, 2, 2, 2, 2, 3, 4, 1, 2, 1},
        {0, 0, 1, 1, 8, 8, 4, 8, 3, 12, 2, 6, 8, 8, 6, 8, 8, 8, 6, 6, 8, 10, 4, 3, 2},
        {0, 0, 0, 0, 3, 2, 2, 3, 2, 6, 1, 4, 90, 9, 2, 3, 3, 3, 2, 2, 1, 6, 1, 1, 0}};
    private static final int RUNS = 1500;
    private static final int CALLS_OF_A_RUN = 512;

    private final Random random;
    private final int run;
    private final RateWires real = new RateWires();
    private final Model model = new Model();
    private final int[] due = new int[8];
    private final int kinds;
    private int calls = 0;

    private ModelTest(int run) {
        this.run = run;
        random = new Random(run);
        kinds = random.nextInt(4) == 0 ? 2 : 1;
        int highest = 1 + random.nextInt(9);
        for (int m = 0; m < 8; m++) {
            due[m] = 1 + random.nextInt(highest);
        }
    }

    public static void main(String[] args) {
        int[] often = new int[CALLS.length];
        for (int run = 0; run < RUNS; run++) {
            new ModelTest(run).play(often);
        }
        for (int c = 0; c < CALLS.length; c++) {
            Checks.isTrue(CALLS[c] + " came often enough", often[c] > 1000);
        }
        Checks.end("ModelTest");
    }

    private void play(int[] often) {
        int mood = random.nextInt(3);
        while (calls < CALLS_OF_A_RUN) {
            if (random.nextInt(100) == 0) {
                mood = random.nextInt(3);
            }
            if (random.nextInt(60) == 0) {
                type(often);
            }
            int c = pick(WEIGHTS[calls < 40 ? 0 : mood]);
            both(c, arguments(c), often);
        }
    }

    /** A text, mostly a plan or nearly one. */
    private void type(int[] often) {
        both(1, new long[0], often);
        StringBuilder s = new StringBuilder("M");
        int commands = random.nextInt(25);
        for (int i = 0; i < commands; i++) {
            s.append(command());
        }
        if (random.nextInt(3) == 0) {
            s.setCharAt(random.nextInt(s.length()), "Mmwcf0123456789 x".charAt(random.nextInt(17)));
        }
        if (random.nextInt(4) == 0) {
            s.setLength(random.nextInt(s.length() + 1));
        }
        for (int i = 0; i < s.length(); i++) {
            both(0, new long[] {s.charAt(i)}, often);
        }
        both(2, new long[0], often);
        both(3, new long[0], often);
    }

    private String command() {
        switch (random.nextInt(6)) {
            case 0:
            case 1:
                return "m" + random.nextInt(kinds) + random.nextInt(kinds);
            case 2:
                return "c" + random.nextInt(2) + random.nextInt(random.nextInt(3) == 0 ? 10 : 4);
            case 3:
                return "f" + random.nextInt(4);
            default:
                int a = random.nextInt(4);
                int b = random.nextInt(4);
                int[] rates = rates(a, b);
                return "w" + a + b + Math.floorMod(rates[0], 8) + Math.floorMod(rates[1], 8) + (random.nextBoolean() ? "00" : "" + (10 + random.nextInt(90)));
        }
    }

    private int pick(int[] weights) {
        int sum = 0;
        for (int w : weights) {
            sum += w;
        }
        int at = random.nextInt(sum);
        int c = 0;
        while (at >= weights[c]) {
            at -= weights[c];
            c++;
        }
        return c;
    }

    /** Mostly numbers of what there is, seldom wrong ones. */
    private int index(int count) {
        if (random.nextInt(40) == 0) {
            return new int[] {-1, count, 8, 14, Integer.MIN_VALUE, Integer.MAX_VALUE}[random.nextInt(6)];
        }
        return random.nextInt(Math.max(count, 1));
    }

    private int from(int low, int high) {
        if (random.nextInt(40) == 0) {
            return random.nextBoolean() ? low - 1 : high + 1;
        }
        return low + random.nextInt(high - low + 1);
    }

    /** Mostly rates that agree with the works that are thought of. */
    private int[] rates(int a, int b) {
        if (random.nextInt(12) > 0) {
            int times = 1 + random.nextInt(2);
            for (int i = 0; i < 20; i++) {
                int comes = 1 + random.nextInt(6);
                if (comes * due[a & 7] % due[b & 7] == 0 && comes * due[a & 7] / due[b & 7] <= 6 && i >= times) {
                    return new int[] {comes, comes * due[a & 7] / due[b & 7]};
                }
            }
        }
        return new int[] {from(1, 6), from(1, 6)};
    }

    private int marks() {
        switch (random.nextInt(4)) {
            case 0:
                return 0;
            case 1:
                return from(0, 99);
            default:
                return from(0, 15);
        }
    }

    private long[] arguments(int c) {
        int modules = model.about(0);
        int wires = model.about(1);
        switch (c) {
            case 4:
                return new long[] {from(0, 8)};
            case 5:
                return new long[] {index(modules), from(0, 5)};
            case 6:
                return new long[] {index(wires), from(0, 4)};
            case 7:
                return new long[] {index(modules), index(modules)};
            case 8:
                return new long[] {from(0, kinds - 1), from(0, kinds - 1)};
            case 9:
                int a = index(modules);
                int b = index(modules);
                int[] rates = rates(a, b);
                return new long[] {a, b, rates[0], rates[1], marks()};
            case 10:
            case 19:
                return new long[] {index(wires)};
            case 11:
                return new long[] {index(wires), marks()};
            case 12:
                return new long[] {random.nextInt(3) == 0 ? index(modules) : calls / 50 % Math.max(modules, 1)};
            case 13:
            case 16:
                return new long[] {from(0, 2)};
            case 15:
                return new long[] {from(0, 2), random.nextInt(50) == 0 ? Integer.MAX_VALUE : from(0, 12)};
            case 17:
                return new long[] {index(wires), from(0, 2)};
            case 20:
                return new long[] {index(wires), from(1, 6)};
            case 21:
                return script(modules, wires);
            case 22:
                return new long[] {random.nextLong(), from(1, 99)};
            case 23:
            case 24:
                return new long[] {index(2)};
            default:
                return new long[0];
        }
    }

    private long[] script(int modules, int wires) {
        int n = 1 + random.nextInt(3);
        long script = 0;
        for (int i = 0; i < n; i++) {
            script = script * 1000000 + group(modules, wires);
        }
        if (random.nextInt(30) == 0) {
            script = random.nextBoolean() ? random.nextLong() : Math.abs(random.nextLong()) % 2000000000000L;
        }
        return new long[] {random.nextInt(40) == 0 ? from(1, 3) : n, script};
    }

    private int group(int modules, int wires) {
        int m = random.nextInt(20) == 0 ? random.nextInt(10) : random.nextInt(Math.max(modules, 1));
        int o = random.nextInt(20) == 0 ? random.nextInt(10) : random.nextInt(Math.max(modules, 1));
        int w = random.nextInt(20) == 0 ? random.nextInt(100) : random.nextInt(Math.max(wires, 1));
        int group = random.nextInt(1000000);
        switch (random.nextInt(10)) {
            case 1:
                int[] rates = rates(m, o);
                group = 100000 + m * 10000 + o * 1000 + Math.floorMod(rates[0], 10) * 100 + Math.floorMod(rates[1], 10) * 10 + random.nextInt(10);
                break;
            case 2:
                group = 200000 + w;
                break;
            case 3:
                group = 300000 + w * 100 + (random.nextBoolean() ? 0 : random.nextInt(100));
                break;
            case 4:
                group = 400000 + m;
                break;
            case 5:
                group = 500000 + random.nextInt(4);
                break;
            case 6:
                group = 600000;
                break;
            case 7:
                group = 700000 + w * 100 + random.nextInt(30);
                break;
            case 8:
                group = 800000 + random.nextInt(1000);
                break;
            case 9:
                group = 900000 + m * 100 + random.nextInt(12);
                break;
            default:
                break;
        }
        if (random.nextInt(20) == 0) {
            group = (group + 10 * (int) Math.pow(10, random.nextInt(4))) % 1000000;
        }
        return group;
    }

    private void both(int c, long[] a, int[] often) {
        if (calls >= CALLS_OF_A_RUN) {
            return;
        }
        calls++;
        often[c]++;
        StringBuilder told = new StringBuilder("run ").append(run).append(", call ").append(calls).append(": ").append(CALLS[c]);
        for (long x : a) {
            told.append(' ').append(x);
        }
        Checks.same(told.toString(), outcome(c, a, false), outcome(c, a, true));
    }

    private static final long THROWN = 1L << 40;

    private long outcome(int c, long[] a, boolean ofReal) {
        try {
            return ofReal ? askReal(c, a) : askModel(c, a);
        } catch (IndexOutOfBoundsException e) {
            return e.getClass() == IndexOutOfBoundsException.class ? THROWN + 1 : THROWN + 9;
        } catch (IllegalArgumentException e) {
            return THROWN + 2;
        } catch (IllegalStateException e) {
            return THROWN + 3;
        } catch (RuntimeException e) {
            return THROWN + 9;
        }
    }

    private int askReal(int c, long[] a) {
        switch (c) {
            case 0:
                return real.append((int) a[0]);
            case 1:
                return real.clearText();
            case 2:
                return real.errorPosition();
            case 3:
                return real.load();
            case 4:
                return real.about((int) a[0]);
            case 5:
                return real.module((int) a[0], (int) a[1]);
            case 6:
                return real.wire((int) a[0], (int) a[1]);
            case 7:
                return real.between((int) a[0], (int) a[1]);
            case 8:
                return real.addModule((int) a[0], (int) a[1]);
            case 9:
                return real.lay((int) a[0], (int) a[1], (int) a[2], (int) a[3], (int) a[4]);
            case 10:
                return real.cut((int) a[0]);
            case 11:
                return real.put((int) a[0], (int) a[1]);
            case 12:
                return real.work((int) a[0]);
            case 13:
                return real.round((int) a[0]);
            case 14:
                return real.undo();
            case 15:
                return real.order((int) a[0], (int) a[1]);
            case 16:
                return real.sticks((int) a[0]);
            case 17:
                return real.holds((int) a[0], (int) a[1]);
            case 18:
                return real.bestRule();
            case 19:
                return real.fewest((int) a[0]);
            case 20:
                return real.agrees((int) a[0], (int) a[1]);
            case 21:
                return real.runScript((int) a[0], a[1]);
            case 22:
                return real.simulate(a[0], (int) a[1]);
            case 23:
                return real.save((int) a[0]);
            default:
                return real.restore((int) a[0]);
        }
    }

    private int askModel(int c, long[] a) {
        switch (c) {
            case 0:
                return model.append((int) a[0]);
            case 1:
                return model.clearText();
            case 2:
                return model.errorPosition();
            case 3:
                return model.load();
            case 4:
                return model.about((int) a[0]);
            case 5:
                return model.module((int) a[0], (int) a[1]);
            case 6:
                return model.wire((int) a[0], (int) a[1]);
            case 7:
                return model.between((int) a[0], (int) a[1]);
            case 8:
                return model.addModule((int) a[0], (int) a[1]);
            case 9:
                return model.lay((int) a[0], (int) a[1], (int) a[2], (int) a[3], (int) a[4]);
            case 10:
                return model.cut((int) a[0]);
            case 11:
                return model.put((int) a[0], (int) a[1]);
            case 12:
                return model.work((int) a[0]);
            case 13:
                return model.round((int) a[0]);
            case 14:
                return model.undo();
            case 15:
                return model.order((int) a[0], (int) a[1]);
            case 16:
                return model.sticks((int) a[0]);
            case 17:
                return model.holds((int) a[0], (int) a[1]);
            case 18:
                return model.bestRule();
            case 19:
                return model.fewest((int) a[0]);
            case 20:
                return model.agrees((int) a[0], (int) a[1]);
            case 21:
                return model.runScript((int) a[0], a[1]);
            case 22:
                return model.simulate(a[0], (int) a[1]);
            case 23:
                return model.save((int) a[0]);
            default:
                return model.restore((int) a[0]);
        }
    }
}
