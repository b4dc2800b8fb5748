/** Modules wired by kinds of signals. The document, ../shared/DOC.md, says what each call does. */
public final class RateWires {
    public static final int NONE = -1;

    private static final int MAX_MODULES = 8;
    private static final int MAX_WIRES = 14;
    private static final int MAX_KIND = 3;
    private static final int MAX_RATE = 6;
    private static final int MAX_PUT = 99;
    private static final int MAX_HELD = 999;
    private static final int MAX_DUE = 60;
    private static final int RULES = 3;
    private static final int MAX_TEXT = 120;
    private static final int MAX_REMEMBERED = 14;
    private static final int SLOTS = 2;
    private static final int MAX_TURNS = 99;
    private static final int MAX_COMMANDS = 3;
    private static final int MAX_TOLD = 999;
    /** One more than the highest group of six digits. */
    private static final int GROUP = 1000000;

    private final Text text = new Text();
    private final Plan plan = new Plan();
    private final History history = new History();
    private final Plan[] slots = new Plan[SLOTS];
    private final boolean[] saved = new boolean[SLOTS];
    /** What scripts, simulations and questions may change. */
    private final Plan copy = new Plan();
    private final Course course = new Course();
    private final Rates rates = new Rates();
    private final Ways ways = new Ways();

    public RateWires() {
        for (int slot = 0; slot < SLOTS; slot++) {
            slots[slot] = new Plan();
        }
    }

    // ---- text

    public int append(int c) throws IllegalArgumentException, IllegalStateException {
        refuse(range(c, 0, 255));
        refuse(text.isFull() ? Fault.STATE : Fault.FINE);
        return text.add((char) c);
    }

    public int clearText() {
        return text.empty();
    }

    public int errorPosition() {
        return text.firstError();
    }

    public int load() throws IllegalStateException {
        refuse(text.firstError() == NONE ? Fault.FINE : Fault.STATE);
        plan.empty();
        history.forget();
        for (int slot = 0; slot < SLOTS; slot++) {
            saved[slot] = false;
        }
        int leftOut = 0;
        for (int i = 1; i < text.size(); i += 1 + Text.digitsOf(text.at(i))) {
            if (!obeysText(i)) {
                leftOut++;
            }
        }
        return leftOut;
    }

    // ---- what there is

    public int about(int what) throws IllegalArgumentException {
        refuse(range(what, 0, 8));
        switch (what) {
            case 0:
                return plan.modules;
            case 1:
                return plan.wires;
            case 2:
                return plan.allMarks();
            case 3:
                return plan.allWorks();
            case 4:
                return rates.agreeIn(plan) ? 1 : 0;
            case 5:
                return plan.parts();
            case 6:
                return rates.agreeIn(plan) ? rates.total() : NONE;
            case 7:
                return plan.ready();
            default:
                return plan.onLoops();
        }
    }

    public int module(int m, int what) throws IndexOutOfBoundsException, IllegalArgumentException {
        refuse(plan.moduleFault(m));
        refuse(range(what, 0, 5));
        switch (what) {
            case 0:
                return plan.uses[m];
            case 1:
                return plan.makes[m];
            case 2:
                return plan.worked[m];
            case 3:
                return rates.agreeIn(plan) ? rates.due[m] : NONE;
            case 4:
                return Plan.count(plan.to, plan.wires, m);
            default:
                return Plan.count(plan.from, plan.wires, m);
        }
    }

    public int wire(int w, int what) throws IndexOutOfBoundsException, IllegalArgumentException {
        refuse(plan.wireFault(w));
        refuse(range(what, 0, 4));
        switch (what) {
            case 0:
                return plan.from[w];
            case 1:
                return plan.to[w];
            case 2:
                return plan.comes[w];
            case 3:
                return plan.used[w];
            default:
                return plan.marks[w];
        }
    }

    public int between(int a, int b) throws IndexOutOfBoundsException {
        refuse(plan.moduleFault(a));
        refuse(plan.moduleFault(b));
        return ways.fewestMarks(plan, a, b);
    }

    // ---- actions

    public int addModule(int uses, int makes) throws IllegalArgumentException, IllegalStateException {
        refuse(plan.newModuleFault(uses, makes));
        history.remember(plan);
        return plan.newModule(uses, makes);
    }

    public int lay(int a, int b, int comes, int used, int marks)
            throws IndexOutOfBoundsException, IllegalArgumentException, IllegalStateException {
        refuse(plan.newWireFault(a, b, comes, used, marks));
        history.remember(plan);
        return plan.newWire(a, b, comes, used, marks);
    }

    public int cut(int w) throws IndexOutOfBoundsException {
        refuse(plan.wireFault(w));
        history.remember(plan);
        return plan.dropWire(w);
    }

    public int put(int w, int marks)
            throws IndexOutOfBoundsException, IllegalArgumentException, IllegalStateException {
        refuse(plan.newMarksFault(w, marks));
        history.remember(plan);
        return plan.newMarks(w, marks);
    }

    public int work(int m) throws IndexOutOfBoundsException, IllegalStateException {
        refuse(plan.workFault(m));
        history.remember(plan);
        plan.doWork(m);
        return plan.allMarks();
    }

    public int round(int rule) throws IllegalArgumentException, IllegalStateException {
        refuse(ruleFault(rule));
        course.follow(plan, rule);
        refuse(course.isComplete() ? Fault.FINE : Fault.STATE);
        history.remember(plan);
        return course.takeOver(plan);
    }

    public int undo() throws IllegalStateException {
        refuse(history.isEmpty() ? Fault.STATE : Fault.FINE);
        return history.takeBack(plan);
    }

    // ---- what would be

    public int order(int rule, int k) throws IllegalArgumentException {
        refuse(ruleFault(rule));
        refuse(k < 0 ? Fault.RANGE : Fault.FINE);
        course.follow(plan, rule);
        return course.step(k);
    }

    public int sticks(int rule) throws IllegalArgumentException {
        refuse(ruleFault(rule));
        course.follow(plan, rule);
        return course.agree && !course.isComplete() ? course.length : NONE;
    }

    public int holds(int w, int rule) throws IndexOutOfBoundsException, IllegalArgumentException {
        refuse(plan.wireFault(w));
        refuse(ruleFault(rule));
        course.follow(plan, rule);
        return course.agree ? course.most[w] : NONE;
    }

    public int bestRule() {
        int best = NONE;
        int least = 0;
        for (int rule = 0; rule < RULES; rule++) {
            course.follow(plan, rule);
            if (course.isComplete() && (best == NONE || course.allMost() < least)) {
                best = rule;
                least = course.allMost();
            }
        }
        return best;
    }

    /**
     * A round brings at most 60 times 6 marks onto the wire, so that with 99 or fewer it is never too full:
     * more marks on it can only help, and halving finds the fewest.
     */
    public int fewest(int w) throws IndexOutOfBoundsException {
        refuse(plan.wireFault(w));
        copy.become(plan);
        if (!isCompleteWith(w, MAX_PUT)) {
            return NONE;
        }
        int low = 0;
        int high = MAX_PUT;
        for (int halving = 0; halving < MAX_PUT && low < high; halving++) {
            int middle = (low + high) / 2;
            if (isCompleteWith(w, middle)) {
                high = middle;
            } else {
                low = middle + 1;
            }
        }
        return low;
    }

    public int agrees(int w, int comes) throws IndexOutOfBoundsException, IllegalArgumentException {
        refuse(plan.wireFault(w));
        refuse(range(comes, 1, MAX_RATE));
        copy.become(plan);
        for (int used = 1; used <= MAX_RATE; used++) {
            copy.comes[w] = comes;
            copy.used[w] = used;
            if (rates.agreeIn(copy)) {
                return used;
            }
        }
        return NONE;
    }

    // ---- scripts, simulations

    public int runScript(int n, long script) throws IllegalArgumentException {
        refuse(range(n, 1, MAX_COMMANDS));
        refuse(script < 0 || withoutGroups(script, n) > 0 ? Fault.RANGE : Fault.FINE);
        copy.become(plan);
        for (int i = 0; i < n; i++) {
            if (!obeysGroup((int) (withoutGroups(script, n - 1 - i) % GROUP))) {
                return i;
            }
        }
        return NONE;
    }

    public int simulate(long seed, int m) throws IllegalArgumentException {
        refuse(range(m, 1, MAX_TURNS));
        copy.become(plan);
        long x = seed;
        int works = 0;
        for (int turn = 0; turn < m; turn++) {
            x = x * 6364136223846793005L + 1442695040888963407L;
            works += takeTurn((int) (x >>> 33));
        }
        return 1000 * Math.min(works, MAX_TOLD) + Math.min(copy.allMarks(), MAX_TOLD);
    }

    // ---- save slots

    public int save(int slot) throws IndexOutOfBoundsException {
        refuse(slotFault(slot));
        slots[slot].become(plan);
        saved[slot] = true;
        return plan.wires;
    }

    public int restore(int slot) throws IndexOutOfBoundsException, IllegalStateException {
        refuse(slotFault(slot));
        refuse(saved[slot] ? Fault.FINE : Fault.STATE);
        plan.become(slots[slot]);
        history.forget();
        return plan.wires;
    }

    // ---- helpers

    /** How a call is refused; the calls ask in the order in which the document names the exceptions. */
    private enum Fault { FINE, NO_SUCH, RANGE, STATE }

    private static void refuse(Fault fault) {
        if (fault == Fault.NO_SUCH) {
            throw new IndexOutOfBoundsException("there is no such module, wire or save slot");
        }
        if (fault == Fault.RANGE) {
            throw new IllegalArgumentException("an argument is out of its range");
        }
        if (fault == Fault.STATE) {
            throw new IllegalStateException("this cannot be done now");
        }
    }

    private static Fault range(int x, int low, int high) {
        return x < low || x > high ? Fault.RANGE : Fault.FINE;
    }

    private static Fault ruleFault(int rule) {
        return range(rule, 0, RULES - 1);
    }

    private static Fault slotFault(int slot) {
        return slot < 0 || slot >= SLOTS ? Fault.NO_SUCH : Fault.FINE;
    }

    private boolean isCompleteWith(int w, int marks) {
        copy.marks[w] = marks;
        course.follow(copy, 0);
        return course.isComplete();
    }

    /** Does the command at a place of a text that is a plan; false if it is left out. */
    private boolean obeysText(int i) {
        switch (text.at(i)) {
            case 'm':
                return plan.triesModule(text.digit(i + 1), text.digit(i + 2));
            case 'w':
                return plan.triesWire(text.digit(i + 1), text.digit(i + 2), text.digit(i + 3),
                        text.digit(i + 4), text.digit(i + 5) * 10 + text.digit(i + 6));
            case 'c':
                return plan.triesCut(text.digit(i + 1) * 10 + text.digit(i + 2));
            default:
                return plan.triesWork(text.digit(i + 1));
        }
    }

    private static long withoutGroups(long script, int groups) {
        long rest = script;
        for (int i = 0; i < groups; i++) {
            rest /= GROUP;
        }
        return rest;
    }

    /**
     * Does a command of a script on the copy; false if it fails.
     * Where zeros must stand behind the first digit, a bound on the rest asks for them.
     */
    private boolean obeysGroup(int group) {
        int rest = group % 100000;
        switch (group / 100000) {
            case 1:
                return copy.triesWire(rest / 10000, rest / 1000 % 10, rest / 100 % 10, rest / 10 % 10, rest % 10);
            case 2:
                return rest < 100 && copy.triesCut(rest);
            case 3:
                return rest < 10000 && copy.triesMarks(rest / 100, rest % 100);
            case 4:
                return rest < 10 && copy.triesWork(rest);
            case 5:
                return rest < 10 && course.tries(copy, rest);
            case 6:
                return rest == 0 && rates.agreeIn(copy);
            case 7:
                return rest < 10000 && copy.hasMarks(rest / 100, rest % 100);
            case 8:
                return rest < 1000 && copy.allMarks() <= rest;
            case 9:
                return rest < 1000 && copy.hasWorked(rest / 100, rest % 100);
            default:
                return false;
        }
    }

    /** Takes a turn of a simulation on the copy; returns how many works there are in it. */
    private int takeTurn(int r) {
        int a = r / 8 % 8;
        switch (r % 8) {
            case 0:
                copy.triesWire(a, r / 64 % 8, 1 + r / 512 % 3, 1 + r / 2048 % 3, r / 8192 % 8);
                return 0;
            case 1:
                copy.triesCut(r / 512 % 14);
                return 0;
            case 2:
                return course.tries(copy, r / 512 % 3) ? course.length : 0;
            default:
                return copy.triesWork(a) ? 1 : 0;
        }
    }

    /** The text buffer. */
    private static final class Text {
        private final char[] signs = new char[MAX_TEXT];
        private int size;

        boolean isFull() {
            return size >= MAX_TEXT;
        }

        int size() {
            return size;
        }

        int add(char c) {
            if (size < MAX_TEXT) {
                signs[size] = c;
                size++;
            }
            return size;
        }

        int empty() {
            int before = size;
            size = 0;
            return before;
        }

        char at(int i) {
            return i < 0 || i >= size ? (char) 0 : signs[i];
        }

        int digit(int i) {
            return at(i) - '0';
        }

        int firstError() {
            if (at(0) != 'M') {
                return 0;
            }
            for (int i = 1; i < size; i += 1 + digitsOf(at(i))) {
                int error = errorOfCommand(i);
                if (error != NONE) {
                    return error;
                }
            }
            return NONE;
        }

        private int errorOfCommand(int i) {
            int digits = digitsOf(at(i));
            if (digits == 0) {
                return i;
            }
            for (int k = 1; k <= digits; k++) {
                if (i + k >= size) {
                    return size;
                }
                if (at(i + k) < lowest(at(i), k) || at(i + k) > highest(at(i), k, at(i + k - 1))) {
                    return i + k;
                }
            }
            return NONE;
        }

        /** How many digits a command has; 0 if there is no such command. */
        static int digitsOf(char command) {
            switch (command) {
                case 'm':
                    return 2;
                case 'w':
                    return 6;
                case 'c':
                    return 2;
                case 'f':
                    return 1;
                default:
                    return 0;
            }
        }

        private static char lowest(char command, int k) {
            return command == 'w' && (k == 3 || k == 4) ? '1' : '0';
        }

        private static char highest(char command, int k, char before) {
            switch (command) {
                case 'm':
                    return '3';
                case 'w':
                    return k <= 2 ? '7' : k <= 4 ? '6' : '9';
                case 'c':
                    return k == 1 ? '1' : before == '0' ? '9' : '3';
                default:
                    return '7';
            }
        }
    }

    /** A state: modules, wires, works. What its rows from and to hold are always numbers of modules. */
    private static final class Plan {
        private int modules;
        private final int[] uses = new int[MAX_MODULES];
        private final int[] makes = new int[MAX_MODULES];
        private final int[] worked = new int[MAX_MODULES];
        private int wires;
        private final int[] from = new int[MAX_WIRES];
        private final int[] to = new int[MAX_WIRES];
        private final int[] comes = new int[MAX_WIRES];
        private final int[] used = new int[MAX_WIRES];
        private final int[] marks = new int[MAX_WIRES];

        void empty() {
            modules = 0;
            wires = 0;
        }

        void become(Plan other) {
            if (other == null) {
                return;
            }
            modules = other.modules;
            System.arraycopy(other.uses, 0, uses, 0, MAX_MODULES);
            System.arraycopy(other.makes, 0, makes, 0, MAX_MODULES);
            System.arraycopy(other.worked, 0, worked, 0, MAX_MODULES);
            wires = other.wires;
            System.arraycopy(other.from, 0, from, 0, MAX_WIRES);
            System.arraycopy(other.to, 0, to, 0, MAX_WIRES);
            System.arraycopy(other.comes, 0, comes, 0, MAX_WIRES);
            System.arraycopy(other.used, 0, used, 0, MAX_WIRES);
            System.arraycopy(other.marks, 0, marks, 0, MAX_WIRES);
        }

        // -- what a call would be refused for

        boolean hasModule(int m) {
            return m >= 0 && m < modules;
        }

        boolean hasWire(int w) {
            return w >= 0 && w < wires;
        }

        Fault moduleFault(int m) {
            return hasModule(m) ? Fault.FINE : Fault.NO_SUCH;
        }

        Fault wireFault(int w) {
            return hasWire(w) ? Fault.FINE : Fault.NO_SUCH;
        }

        Fault newModuleFault(int usedKind, int madeKind) {
            if (usedKind < 0 || usedKind > MAX_KIND || madeKind < 0 || madeKind > MAX_KIND) {
                return Fault.RANGE;
            }
            return modules >= MAX_MODULES ? Fault.STATE : Fault.FINE;
        }

        Fault newWireFault(int a, int b, int in, int out, int held) {
            if (!hasModule(a) || !hasModule(b)) {
                return Fault.NO_SUCH;
            }
            if (in < 1 || in > MAX_RATE || out < 1 || out > MAX_RATE || held < 0 || held > MAX_PUT) {
                return Fault.RANGE;
            }
            if (makes[a] != uses[b] || wires >= MAX_WIRES) {
                return Fault.STATE;
            }
            return held == 0 && closesDeadLoop(a, b) ? Fault.STATE : Fault.FINE;
        }

        Fault newMarksFault(int w, int held) {
            if (!hasWire(w)) {
                return Fault.NO_SUCH;
            }
            if (held < 0 || held > MAX_PUT) {
                return Fault.RANGE;
            }
            return held == 0 && closesDeadLoop(from[w], to[w]) ? Fault.STATE : Fault.FINE;
        }

        Fault workFault(int m) {
            if (!hasModule(m)) {
                return Fault.NO_SUCH;
            }
            return canWork(m) ? Fault.FINE : Fault.STATE;
        }

        // -- changes that have been found fine

        int newModule(int usedKind, int madeKind) {
            uses[modules] = usedKind;
            makes[modules] = madeKind;
            worked[modules] = 0;
            modules++;
            return modules - 1;
        }

        int newWire(int a, int b, int in, int out, int held) {
            from[wires] = a;
            to[wires] = b;
            comes[wires] = in;
            used[wires] = out;
            marks[wires] = held;
            wires++;
            return wires - 1;
        }

        int dropWire(int w) {
            int held = marks[w];
            wires--;
            for (int i = w; i < wires; i++) {
                from[i] = from[i + 1];
                to[i] = to[i + 1];
                comes[i] = comes[i + 1];
                used[i] = used[i + 1];
                marks[i] = marks[i + 1];
            }
            return held;
        }

        int newMarks(int w, int held) {
            int before = marks[w];
            marks[w] = held;
            return before;
        }

        void doWork(int m) {
            for (int w = 0; w < wires; w++) {
                marks[w] = marksBehind(m, w);
            }
            worked[m]++;
        }

        // -- the same for those who go on when a call is refused

        boolean triesModule(int usedKind, int madeKind) {
            boolean fine = newModuleFault(usedKind, madeKind) == Fault.FINE;
            if (fine) {
                newModule(usedKind, madeKind);
            }
            return fine;
        }

        boolean triesWire(int a, int b, int in, int out, int held) {
            boolean fine = newWireFault(a, b, in, out, held) == Fault.FINE;
            if (fine) {
                newWire(a, b, in, out, held);
            }
            return fine;
        }

        boolean triesCut(int w) {
            boolean fine = hasWire(w);
            if (fine) {
                dropWire(w);
            }
            return fine;
        }

        boolean triesMarks(int w, int held) {
            boolean fine = newMarksFault(w, held) == Fault.FINE;
            if (fine) {
                newMarks(w, held);
            }
            return fine;
        }

        boolean triesWork(int m) {
            boolean fine = workFault(m) == Fault.FINE;
            if (fine) {
                doWork(m);
            }
            return fine;
        }

        // -- questions

        boolean hasMarks(int w, int least) {
            return hasWire(w) && marks[w] >= least;
        }

        boolean hasWorked(int m, int least) {
            return hasModule(m) && worked[m] >= least;
        }

        boolean canWork(int m) {
            for (int w = 0; w < wires; w++) {
                if (to[w] == m && marks[w] < used[w] || marksBehind(m, w) > MAX_HELD) {
                    return false;
                }
            }
            return true;
        }

        /** The marks on a wire behind a work. */
        private int marksBehind(int m, int w) {
            return marks[w] - (to[w] == m ? used[w] : 0) + (from[w] == m ? comes[w] : 0);
        }

        /** How many more marks there are on all wires behind a work. */
        int gain(int m) {
            int sum = 0;
            for (int w = 0; w < wires; w++) {
                sum += marksBehind(m, w) - marks[w];
            }
            return sum;
        }

        int allMarks() {
            int sum = 0;
            for (int w = 0; w < wires; w++) {
                sum += marks[w];
            }
            return sum;
        }

        int allWorks() {
            int sum = 0;
            for (int m = 0; m < modules; m++) {
                sum += worked[m];
            }
            return sum;
        }

        static int count(int[] ends, int wires, int m) {
            int sum = 0;
            for (int w = 0; w < wires && w < ends.length; w++) {
                if (ends[w] == m) {
                    sum++;
                }
            }
            return sum;
        }

        int ready() {
            int set = 0;
            for (int m = 0; m < modules; m++) {
                if (canWork(m)) {
                    set |= 1 << m;
                }
            }
            return set;
        }

        int onLoops() {
            int set = 0;
            for (int m = 0; m < modules; m++) {
                int next = 0;
                for (int w = 0; w < wires; w++) {
                    next |= from[w] == m ? 1 << to[w] : 0;
                }
                set |= reached(next, MAX_HELD) & 1 << m;
            }
            return set;
        }

        int parts() {
            int seen = 0;
            int sum = 0;
            for (int m = 0; m < modules; m++) {
                if ((seen >> m & 1) == 0) {
                    sum++;
                    seen |= partOf(m);
                }
            }
            return sum;
        }

        private int partOf(int m) {
            int set = 1 << m;
            for (int pass = 1; pass < modules; pass++) {
                for (int w = 0; w < wires; w++) {
                    int ends = 1 << from[w] | 1 << to[w];
                    set |= (set & ends) != 0 ? ends : 0;
                }
            }
            return set;
        }

        private boolean closesDeadLoop(int a, int b) {
            return (reached(1 << b, 0) >> a & 1) != 0;
        }

        /** The set, and the modules to which ways lead from it by wires that hold few enough marks. */
        private int reached(int start, int mostMarks) {
            int set = start;
            for (int pass = 1; pass < modules; pass++) {
                for (int w = 0; w < wires; w++) {
                    if (marks[w] <= mostMarks && (set >> from[w] & 1) != 0) {
                        set |= 1 << to[w];
                    }
                }
            }
            return set;
        }
    }

    /** Finds ways. */
    private static final class Ways {
        private final int[] near = new int[MAX_MODULES];

        /** The fewest marks on a way of one or more wires; no way needs more wires than there are modules. */
        int fewestMarks(Plan p, int a, int b) {
            for (int m = 0; m < MAX_MODULES; m++) {
                near[m] = NONE;
            }
            for (int w = 0; w < p.wires; w++) {
                if (p.from[w] == a) {
                    shorten(p.to[w], p.marks[w]);
                }
            }
            for (int pass = 1; pass < p.modules; pass++) {
                for (int w = 0; w < p.wires; w++) {
                    if (near[p.from[w]] != NONE) {
                        shorten(p.to[w], near[p.from[w]] + p.marks[w]);
                    }
                }
            }
            return near[b];
        }

        private void shorten(int m, int marks) {
            if (near[m] == NONE || near[m] > marks) {
                near[m] = marks;
            }
        }
    }

    /** How often each module works in a round. */
    private static final class Rates {
        private final int[] due = new int[MAX_MODULES];
        private int modules;

        boolean agreeIn(Plan p) {
            modules = p.modules;
            for (int m = 0; m < modules; m++) {
                due[m] = 0;
            }
            for (int m = 0; m < modules; m++) {
                if (due[m] == 0 && !findsPart(p, m)) {
                    return false;
                }
            }
            for (int w = 0; w < p.wires; w++) {
                if (due[p.from[w]] * p.comes[w] != due[p.to[w]] * p.used[w]) {
                    return false;
                }
            }
            return true;
        }

        int total() {
            int sum = 0;
            for (int m = 0; m < modules; m++) {
                sum += due[m];
            }
            return sum;
        }

        /**
         * Finds the smallest works for the modules that hang together with one; false if some are too many.
         * A further module can only multiply those that are found, so that too many stay too many.
         */
        private boolean findsPart(Plan p, int first) {
            due[first] = 1;
            int part = 1 << first;
            for (int pass = 1; pass < modules; pass++) {
                for (int w = 0; w < p.wires; w++) {
                    int a = p.from[w];
                    int b = p.to[w];
                    boolean hasA = (part >> a & 1) != 0;
                    boolean hasB = (part >> b & 1) != 0;
                    if (hasA && !hasB && !joins(part, b, due[a] * p.comes[w], p.used[w])) {
                        return false;
                    }
                    if (hasB && !hasA && !joins(part, a, due[b] * p.used[w], p.comes[w])) {
                        return false;
                    }
                    part |= hasA || hasB ? 1 << a | 1 << b : 0;
                }
            }
            return true;
        }

        /** Lets a module work marks / rate times, and all of the part so many times as often that this is whole. */
        private boolean joins(int part, int m, int marks, int rate) {
            if (rate < 1) {
                return false;
            }
            int times = 1;
            while (times < rate && marks * times % rate != 0) {
                times++;
            }
            for (int i = 0; i < modules; i++) {
                due[i] *= (part >> i & 1) != 0 ? times : 1;
                if (due[i] > MAX_DUE) {
                    return false;
                }
            }
            due[m] = marks * times / rate;
            return due[m] <= MAX_DUE;
        }
    }

    /** A round, gone through on a plan of its own. */
    private static final class Course {
        private final Rates rates = new Rates();
        private final Plan plan = new Plan();
        private final int[] left = new int[MAX_MODULES];
        private final int[] gains = new int[MAX_MODULES];
        private final int[] steps = new int[MAX_MODULES * MAX_DUE];
        private final int[] most = new int[MAX_WIRES];
        private boolean agree;
        private int total;
        private int length;

        void follow(Plan start, int rule) {
            plan.become(start);
            agree = rates.agreeIn(plan);
            total = agree ? rates.total() : 0;
            length = 0;
            if (!agree) {
                return;
            }
            for (int m = 0; m < plan.modules; m++) {
                left[m] = rates.due[m];
                gains[m] = plan.gain(m);
            }
            for (int w = 0; w < plan.wires; w++) {
                most[w] = plan.marks[w];
            }
            int next = choose(rule);
            for (int works = 0; works < total && next != NONE; works++) {
                take(next);
                next = choose(rule);
            }
        }

        boolean isComplete() {
            return agree && length == total;
        }

        int step(int k) {
            return k < 0 || k >= length || k >= steps.length ? NONE : steps[k];
        }

        int allMost() {
            int sum = 0;
            for (int w = 0; w < plan.wires; w++) {
                sum += most[w];
            }
            return sum;
        }

        /** Lets the round that was followed, and is complete, be done in a plan; returns its works. */
        int takeOver(Plan p) {
            p.become(plan);
            return length;
        }

        boolean tries(Plan p, int rule) {
            if (ruleFault(rule) != Fault.FINE) {
                return false;
            }
            follow(p, rule);
            if (isComplete()) {
                takeOver(p);
            }
            return isComplete();
        }

        private void take(int m) {
            if (length < steps.length) {
                steps[length] = m;
                length++;
            }
            left[m]--;
            plan.doWork(m);
            for (int w = 0; w < plan.wires; w++) {
                most[w] = Math.max(most[w], plan.marks[w]);
            }
        }

        private int choose(int rule) {
            int first = rule == 2 && length > 0 ? step(length - 1) + 1 : 0;
            int best = NONE;
            for (int i = 0; i < plan.modules; i++) {
                int m = first + i < plan.modules ? first + i : first + i - plan.modules;
                if (left[m] > 0 && plan.canWork(m)) {
                    if (rule != 1) {
                        return m;
                    }
                    if (best == NONE || gains[m] < gains[best]) {
                        best = m;
                    }
                }
            }
            return best;
        }
    }

    /** The states that are remembered, in a ring of rows that are used again. */
    private static final class History {
        private final Plan[] states = new Plan[MAX_REMEMBERED];
        private int oldest;
        private int size;

        History() {
            for (int i = 0; i < MAX_REMEMBERED; i++) {
                states[i] = new Plan();
            }
        }

        boolean isEmpty() {
            return size == 0;
        }

        void remember(Plan now) {
            states[(oldest + size) % MAX_REMEMBERED].become(now);
            if (size < MAX_REMEMBERED) {
                size++;
            } else {
                oldest = (oldest + 1) % MAX_REMEMBERED;
            }
        }

        int takeBack(Plan now) {
            size--;
            now.become(states[(oldest + size) % MAX_REMEMBERED]);
            return size;
        }

        void forget() {
            size = 0;
        }
    }
}
