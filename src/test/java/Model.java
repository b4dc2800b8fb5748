import java.util.ArrayList;
import java.util.List;
import java.util.regex.Matcher;
import java.util.regex.Pattern;

/** The document once more, as literally as can be and without a thought of cost, to compare the class with. */
final class Model {
    private static final String[] COMMANDS = {"m[0-3][0-3]", "w[0-7][0-7][1-6][1-6][0-9][0-9]", "c(?:0[0-9]|1[0-3])", "f[0-7]"};

    private static final class Wire {
        int from;
        int to;
        int comes;
        int used;
        int marks;

        Wire(int from, int to, int comes, int used, int marks) {
            this.from = from;
            this.to = to;
            this.comes = comes;
            this.used = used;
            this.marks = marks;
        }
    }

    private static final class State {
        final List<int[]> modules = new ArrayList<>();
        final List<Wire> wires = new ArrayList<>();

        State copy() {
            State s = new State();
            for (int[] m : modules) {
                s.modules.add(m.clone());
            }
            for (Wire w : wires) {
                s.wires.add(new Wire(w.from, w.to, w.comes, w.used, w.marks));
            }
            return s;
        }
    }

    /** A round by a rule: null as its works if the rates do not agree. */
    private static final class Round {
        long[] due;
        final List<Integer> works = new ArrayList<>();
        int[] most;
        boolean complete;
    }

    private String text = "";
    private State now = new State();
    private final List<State> before = new ArrayList<>();
    private final State[] slots = new State[2];

    // ---- text

    int append(int c) {
        argument(c >= 0 && c <= 255);
        possible(text.length() < 120);
        text = text + (char) c;
        return text.length();
    }

    int clearText() {
        int n = text.length();
        text = "";
        return n;
    }

    /** A text is a beginning of a plan if it can be filled up to one: that is tried with all fillings of one command. */
    int errorPosition() {
        if (isPlan(text)) {
            return -1;
        }
        for (int n = 1; n <= text.length(); n++) {
            if (!beginsPlan(text.substring(0, n))) {
                return n - 1;
            }
        }
        return text.length();
    }

    private static boolean isPlan(String s) {
        return Pattern.matches("M(?:" + String.join("|", COMMANDS) + ")*", s);
    }

    private static boolean beginsPlan(String s) {
        String[] fillings = {"", "M", "00", "0", "001100", "01100", "1100", "100"};
        for (String f : fillings) {
            if (isPlan(s + f)) {
                return true;
            }
        }
        return false;
    }

    int load() {
        possible(isPlan(text));
        now = new State();
        before.clear();
        slots[0] = null;
        slots[1] = null;
        int leftOut = 0;
        Matcher m = Pattern.compile("[mwcf][0-9]+").matcher(text);
        while (m.find()) {
            String g = m.group();
            State next = now.copy();
            try {
                if (g.charAt(0) == 'm') {
                    doAddModule(next, d(g, 1), d(g, 2));
                } else if (g.charAt(0) == 'w') {
                    doLay(next, d(g, 1), d(g, 2), d(g, 3), d(g, 4), Integer.parseInt(g.substring(5)));
                } else if (g.charAt(0) == 'c') {
                    doCut(next, Integer.parseInt(g.substring(1)));
                } else {
                    doWork(next, d(g, 1));
                }
                now = next;
            } catch (RuntimeException e) {
                leftOut++;
            }
        }
        return leftOut;
    }

    private static int d(String s, int i) {
        return s.charAt(i) - '0';
    }

    // ---- what there is

    int about(int what) {
        argument(what >= 0 && what <= 8);
        int n = now.modules.size();
        long[] due = due(now);
        int sum = 0;
        if (what == 0) {
            return n;
        } else if (what == 1) {
            return now.wires.size();
        } else if (what == 2) {
            return total(now);
        } else if (what == 3) {
            for (int[] m : now.modules) {
                sum += m[2];
            }
        } else if (what == 4) {
            sum = due == null ? 0 : 1;
        } else if (what == 5) {
            boolean[][] linked = linked(now, true, 999);
            for (int m = 0; m < n; m++) {
                boolean first = true;
                for (int o = 0; o < m; o++) {
                    first &= !linked[o][m];
                }
                sum += first ? 1 : 0;
            }
        } else if (what == 6) {
            if (due == null) {
                return -1;
            }
            for (long x : due) {
                sum += x;
            }
        } else if (what == 7) {
            for (int m = 0; m < n; m++) {
                sum += canWork(now, m) ? 1 << m : 0;
            }
        } else {
            boolean[][] linked = linked(now, false, 999);
            for (int m = 0; m < n; m++) {
                sum += linked[m][m] ? 1 << m : 0;
            }
        }
        return sum;
    }

    int module(int m, int what) {
        moduleThere(now, m);
        argument(what >= 0 && what <= 5);
        if (what <= 2) {
            return now.modules.get(m)[what];
        }
        if (what == 3) {
            return due(now) == null ? -1 : (int) due(now)[m];
        }
        int sum = 0;
        for (Wire w : now.wires) {
            sum += (what == 4 ? w.to : w.from) == m ? 1 : 0;
        }
        return sum;
    }

    int wire(int w, int what) {
        wireThere(now, w);
        argument(what >= 0 && what <= 4);
        Wire x = now.wires.get(w);
        return new int[] {x.from, x.to, x.comes, x.used, x.marks}[what];
    }

    /** All ways on which no wire stands twice are walked. */
    int between(int a, int b) {
        moduleThere(now, a);
        moduleThere(now, b);
        int[] least = {-1};
        walk(a, b, 0, 0, new boolean[now.modules.size()], least);
        return least[0];
    }

    private void walk(int at, int goal, int marks, int wires, boolean[] seen, int[] least) {
        if (wires > 0 && at == goal) {
            least[0] = least[0] < 0 ? marks : Math.min(least[0], marks);
            return;
        }
        if (least[0] >= 0 && marks >= least[0]) {
            return;
        }
        if (seen[at]) {
            return;
        }
        seen[at] = true;
        for (Wire w : now.wires) {
            if (w.from == at) {
                walk(w.to, goal, marks + w.marks, wires + 1, seen, least);
            }
        }
        seen[at] = false;
    }

    // ---- actions

    private interface Action {
        int on(State s);
    }

    private int act(Action a) {
        State next = now.copy();
        int answer = a.on(next);
        before.add(now);
        if (before.size() > 14) {
            before.remove(0);
        }
        now = next;
        return answer;
    }

    int addModule(int uses, int makes) {
        return act(s -> doAddModule(s, uses, makes));
    }

    int lay(int a, int b, int comes, int used, int marks) {
        return act(s -> doLay(s, a, b, comes, used, marks));
    }

    int cut(int w) {
        return act(s -> doCut(s, w));
    }

    int put(int w, int marks) {
        return act(s -> doPut(s, w, marks));
    }

    int work(int m) {
        return act(s -> doWork(s, m));
    }

    int round(int rule) {
        return act(s -> doRound(s, rule));
    }

    int undo() {
        possible(!before.isEmpty());
        now = before.remove(before.size() - 1);
        return before.size();
    }

    private static int doAddModule(State s, int uses, int makes) {
        argument(uses >= 0 && uses <= 3 && makes >= 0 && makes <= 3);
        possible(s.modules.size() < 8);
        s.modules.add(new int[] {uses, makes, 0});
        return s.modules.size() - 1;
    }

    private static int doLay(State s, int a, int b, int comes, int used, int marks) {
        moduleThere(s, a);
        moduleThere(s, b);
        argument(comes >= 1 && comes <= 6 && used >= 1 && used <= 6 && marks >= 0 && marks <= 99);
        possible(s.modules.get(a)[1] == s.modules.get(b)[0]);
        possible(s.wires.size() < 14);
        s.wires.add(new Wire(a, b, comes, used, marks));
        possible(!onDeadLoop(s, s.wires.size() - 1));
        return s.wires.size() - 1;
    }

    private static int doCut(State s, int w) {
        wireThere(s, w);
        return s.wires.remove(w).marks;
    }

    private static int doPut(State s, int w, int marks) {
        wireThere(s, w);
        argument(marks >= 0 && marks <= 99);
        int held = s.wires.get(w).marks;
        s.wires.get(w).marks = marks;
        possible(!onDeadLoop(s, w));
        return held;
    }

    private static int doWork(State s, int m) {
        moduleThere(s, m);
        possible(canWork(s, m));
        for (Wire w : s.wires) {
            w.marks -= w.to == m ? w.used : 0;
        }
        for (Wire w : s.wires) {
            w.marks += w.from == m ? w.comes : 0;
        }
        s.modules.get(m)[2]++;
        return total(s);
    }

    private static int doRound(State s, int rule) {
        argument(rule >= 0 && rule <= 2);
        Round r = follow(s, rule);
        possible(r.due != null && r.complete);
        for (int m : r.works) {
            doWork(s, m);
        }
        return r.works.size();
    }

    // ---- what would be

    int order(int rule, int k) {
        argument(rule >= 0 && rule <= 2);
        argument(k >= 0);
        Round r = follow(now, rule);
        return r.due == null || k >= r.works.size() ? -1 : r.works.get(k);
    }

    int sticks(int rule) {
        argument(rule >= 0 && rule <= 2);
        Round r = follow(now, rule);
        return r.due == null || r.complete ? -1 : r.works.size();
    }

    int holds(int w, int rule) {
        wireThere(now, w);
        argument(rule >= 0 && rule <= 2);
        Round r = follow(now, rule);
        return r.due == null ? -1 : r.most[w];
    }

    int bestRule() {
        int best = -1;
        int least = Integer.MAX_VALUE;
        for (int rule = 2; rule >= 0; rule--) {
            Round r = follow(now, rule);
            if (r.due != null && r.complete) {
                int sum = 0;
                for (int x : r.most) {
                    sum += x;
                }
                if (sum <= least) {
                    best = rule;
                    least = sum;
                }
            }
        }
        return best;
    }

    int fewest(int w) {
        wireThere(now, w);
        for (int marks = 0; marks <= 99; marks++) {
            State s = now.copy();
            s.wires.get(w).marks = marks;
            Round r = follow(s, 0);
            if (r.due == null) {
                return -1;
            }
            if (r.complete) {
                return marks;
            }
        }
        return -1;
    }

    int agrees(int w, int comes) {
        wireThere(now, w);
        argument(comes >= 1 && comes <= 6);
        for (int used = 1; used <= 6; used++) {
            State s = now.copy();
            s.wires.get(w).comes = comes;
            s.wires.get(w).used = used;
            if (due(s) != null) {
                return used;
            }
        }
        return -1;
    }

    // ---- scripts, simulations

    int runScript(int n, long script) {
        argument(n >= 1 && n <= 3);
        argument(script >= 0 && Long.toString(script).length() <= 6 * n);
        String s = Long.toString(script);
        while (s.length() < 6 * n) {
            s = "0" + s;
        }
        State copy = now.copy();
        for (int i = 0; i < n; i++) {
            if (!succeeds(copy, s.substring(6 * i, 6 * i + 6))) {
                return i;
            }
        }
        return -1;
    }

    private static boolean succeeds(State s, String g) {
        try {
            if (g.startsWith("1")) {
                doLay(s, d(g, 1), d(g, 2), d(g, 3), d(g, 4), d(g, 5));
            } else if (g.startsWith("2000")) {
                doCut(s, Integer.parseInt(g.substring(4)));
            } else if (g.startsWith("30")) {
                doPut(s, Integer.parseInt(g.substring(2, 4)), Integer.parseInt(g.substring(4)));
            } else if (g.startsWith("40000")) {
                doWork(s, d(g, 5));
            } else if (g.startsWith("50000")) {
                doRound(s, d(g, 5));
            } else if (g.equals("600000")) {
                return due(s) != null;
            } else if (g.startsWith("70")) {
                return s.wires.get(Integer.parseInt(g.substring(2, 4))).marks >= Integer.parseInt(g.substring(4));
            } else if (g.startsWith("800")) {
                return total(s) <= Integer.parseInt(g.substring(3));
            } else if (g.startsWith("900")) {
                return s.modules.get(d(g, 3))[2] >= Integer.parseInt(g.substring(4));
            } else {
                return false;
            }
            return true;
        } catch (RuntimeException e) {
            return false;
        }
    }

    int simulate(long seed, int m) {
        argument(m >= 1 && m <= 99);
        State s = now.copy();
        long x = seed;
        int works = 0;
        for (int i = 0; i < m; i++) {
            x = x * 6364136223846793005L + 1442695040888963407L;
            int r = (int) (x >>> 33);
            int a = r / 8 % 8;
            int b = r / 64 % 8;
            State next = s.copy();
            try {
                if (r % 8 == 0) {
                    doLay(next, a, b, 1 + r / 512 % 3, 1 + r / 2048 % 3, r / 8192 % 8);
                } else if (r % 8 == 1) {
                    doCut(next, r / 512 % 14);
                } else if (r % 8 == 2) {
                    works += doRound(next, r / 512 % 3);
                } else {
                    doWork(next, a);
                    works++;
                }
                s = next;
            } catch (RuntimeException e) {
                // left out
            }
        }
        return 1000 * Math.min(999, works) + Math.min(999, total(s));
    }

    // ---- save slots

    int save(int slot) {
        there(slot == 0 || slot == 1);
        slots[slot] = now.copy();
        return now.wires.size();
    }

    int restore(int slot) {
        there(slot == 0 || slot == 1);
        possible(slots[slot] != null);
        now = slots[slot].copy();
        before.clear();
        return now.wires.size();
    }

    // ---- the terms

    private static void there(boolean fine) {
        if (!fine) {
            throw new IndexOutOfBoundsException();
        }
    }

    private static void argument(boolean fine) {
        if (!fine) {
            throw new IllegalArgumentException();
        }
    }

    private static void possible(boolean fine) {
        if (!fine) {
            throw new IllegalStateException();
        }
    }

    private static void moduleThere(State s, int m) {
        there(m >= 0 && m < s.modules.size());
    }

    private static void wireThere(State s, int w) {
        there(w >= 0 && w < s.wires.size());
    }

    private static int total(State s) {
        int sum = 0;
        for (Wire w : s.wires) {
            sum += w.marks;
        }
        return sum;
    }

    private static boolean canWork(State s, int m) {
        for (Wire w : s.wires) {
            int left = w.marks;
            if (w.to == m) {
                if (left < w.used) {
                    return false;
                }
                left -= w.used;
            }
            if (w.from == m && left + w.comes > 999) {
                return false;
            }
        }
        return true;
    }

    /** From which module which one is reached by one or more wires, perhaps in any direction. */
    private static boolean[][] linked(State s, boolean anyDirection, int mostMarks) {
        int n = s.modules.size();
        boolean[][] r = new boolean[n][n];
        for (Wire w : s.wires) {
            if (w.marks <= mostMarks) {
                r[w.from][w.to] = true;
                r[w.to][w.from] |= anyDirection;
            }
        }
        for (int k = 0; k < n; k++) {
            for (int i = 0; i < n; i++) {
                for (int j = 0; j < n; j++) {
                    r[i][j] |= r[i][k] && r[k][j];
                }
            }
        }
        return r;
    }

    private static boolean onDeadLoop(State s, int w) {
        Wire x = s.wires.get(w);
        return x.marks == 0 && (x.from == x.to || linked(s, false, 0)[x.to][x.from]);
    }

    /** The works of a round as fractions of those of the first module of the part, brought to one denominator. */
    private static long[] due(State s) {
        int n = s.modules.size();
        long[] up = new long[n];
        long[] down = new long[n];
        long[] due = new long[n];
        for (int root = 0; root < n; root++) {
            if (down[root] == 0) {
                List<Integer> part = new ArrayList<>();
                up[root] = 1;
                down[root] = 1;
                part.add(root);
                for (int i = 0; i < part.size(); i++) {
                    int m = part.get(i);
                    for (Wire w : s.wires) {
                        if (w.from == m && down[w.to] == 0) {
                            up[w.to] = up[m] * w.comes;
                            down[w.to] = down[m] * w.used;
                            part.add(w.to);
                        }
                        if (w.to == m && down[w.from] == 0) {
                            up[w.from] = up[m] * w.used;
                            down[w.from] = down[m] * w.comes;
                            part.add(w.from);
                        }
                    }
                }
                long common = 1;
                for (int m : part) {
                    long g = gcd(up[m], down[m]);
                    up[m] /= g;
                    down[m] /= g;
                    common = common / gcd(common, down[m]) * down[m];
                }
                long shared = 0;
                for (int m : part) {
                    due[m] = up[m] * (common / down[m]);
                    shared = gcd(due[m], shared);
                }
                for (int m : part) {
                    due[m] /= shared;
                }
            }
        }
        for (Wire w : s.wires) {
            if (due[w.from] * w.comes != due[w.to] * w.used) {
                return null;
            }
        }
        for (long x : due) {
            if (x > 60) {
                return null;
            }
        }
        return due;
    }

    private static long gcd(long a, long b) {
        return b == 0 ? a : gcd(b, a % b);
    }

    private static Round follow(State start, int rule) {
        Round r = new Round();
        r.due = due(start);
        if (r.due == null) {
            return r;
        }
        State s = start.copy();
        int n = s.modules.size();
        long[] worked = new long[n];
        r.most = new int[s.wires.size()];
        watch(s, r);
        for (int last = n - 1;;) {
            int chosen = -1;
            int least = 0;
            for (int i = 0; i < n; i++) {
                int m = rule == 2 ? (last + 1 + i) % n : i;
                if (worked[m] < r.due[m] && canWork(s, m)) {
                    State behind = s.copy();
                    int marks = doWork(behind, m);
                    if (chosen == -1 || rule == 1 && marks < least) {
                        chosen = m;
                        least = marks;
                    }
                }
            }
            if (chosen == -1) {
                break;
            }
            doWork(s, chosen);
            worked[chosen]++;
            r.works.add(chosen);
            last = chosen;
            watch(s, r);
        }
        r.complete = true;
        for (int m = 0; m < n; m++) {
            r.complete &= worked[m] == r.due[m];
        }
        return r;
    }

    private static void watch(State s, Round r) {
        for (int w = 0; w < r.most.length; w++) {
            r.most[w] = Math.max(r.most[w], s.wires.get(w).marks);
        }
    }
}
