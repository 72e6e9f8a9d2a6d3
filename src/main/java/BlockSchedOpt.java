/**
 * One basic block for a two-issue pipelined machine without interlocks: its
 * dependences, its optimal schedule, and its runs in order and on the machine.
 */
public final class BlockSchedOpt {
    public static final int OP_LDI = 1;
    public static final int OP_ADD = 2;
    public static final int OP_SUB = 3;
    public static final int OP_MUL = 4;
    public static final int OP_LOAD = 5;
    public static final int OP_STORE = 6;

    public static final int EDGE_TRUE = 1;
    public static final int EDGE_ANTI = 2;
    public static final int EDGE_OUTPUT = 4;

    public static final int CHK_EMPTY = -1;
    public static final int CHK_UNSET = -2;
    public static final int CHK_DEP = -3;
    public static final int CHK_WIDTH = -4;
    public static final int CHK_MEM = -5;
    public static final int CHK_MUL = -6;

    public static final int MAX_INSTR = 10;
    public static final int MAX_CYCLE = 64;
    public static final int ISSUE_WIDTH = 2;
    public static final int LOCS = 16;

    private static final int REGS = 8;
    private static final int ADDRESS_MASK = 7;
    private static final int UNSET = -1;
    private static final int NO_EDGE = -1;
    private static final int MAX_LATENCY = 4;

    // Every instruction uses an issue slot, so that is also the unit of one that needs no other.
    private static final int UNIT_ISSUE = 0;
    private static final int UNIT_MEMORY = 1;
    private static final int UNIT_MULTIPLIER = 2;

    // One instruction after the other, each waiting for the one before, is always valid.
    private static final int MAX_LENGTH = MAX_INSTR * MAX_LATENCY;

    private static final int CROWDED = -1;
    private static final int PAIRS = MAX_INSTR * MAX_INSTR;

    // Each round of narrowing but the last takes a cycle from at least one instruction.
    private static final int MAX_ROUNDS = MAX_INSTR * MAX_LENGTH + 1;

    // Each step of the search has placed another row of different instructions. Of ten there are
    // 9,864,101 rows, so that no search comes to this bound.
    private static final int MAX_STEPS = 100000000;

    private final int mulLatency;
    private final int loadLatency;

    private int n = 0;
    private final int[] opcode = new int[MAX_INSTR];
    private final int[] fieldD = new int[MAX_INSTR];
    private final int[] fieldA = new int[MAX_INSTR];
    private final int[] fieldB = new int[MAX_INSTR];
    private final int[] unitOf = new int[MAX_INSTR];
    private final int[] issue = new int[MAX_INSTR];

    private final int[] initial = new int[LOCS];
    private final int[] sequential = new int[LOCS];
    private final int[] machine = new int[LOCS];

    // What an instruction has computed when issued and not yet written.
    private final int[] pendingValue = new int[MAX_INSTR];
    private final int[] pendingTarget = new int[MAX_INSTR];

    // Scratch of the search: by i * MAX_INSTR + j how long j has to wait for i, the cycles on
    // trial, the first and last cycle each instruction can still have, the row of those placed,
    // oldest first, and for each of these, one bit each, those that could have its place instead.
    private final int[] waits = new int[PAIRS];
    private final int[] trial = new int[MAX_INSTR];
    private final int[] earliest = new int[MAX_INSTR];
    private final int[] latest = new int[MAX_INSTR];
    private final int[] placed = new int[MAX_INSTR];
    private final int[] rivals = new int[MAX_INSTR];

    public BlockSchedOpt(int mulLatency, int loadLatency) {
        this.mulLatency = clampLatency(mulLatency);
        this.loadLatency = clampLatency(loadLatency);
    }

    public int addInstr(int op, int d, int a, int b) {
        if (n >= MAX_INSTR || !isWellFormed(op, d, a, b)) {
            return -1;
        }
        int i = n;
        opcode[i] = op;
        fieldD[i] = d;
        fieldA[i] = a;
        fieldB[i] = b;
        unitOf[i] = unitFor(op);
        issue[i] = UNSET;
        n = i + 1;
        return i;
    }

    public void clear() {
        n = 0;
    }

    public boolean setInit(int loc, int value) {
        if (!isLocation(loc)) {
            return false;
        }
        initial[loc] = value;
        return true;
    }

    public boolean setCycle(int i, int c) {
        if (!isInstr(i) || c < UNSET || c >= MAX_CYCLE) {
            return false;
        }
        issue[i] = c;
        return true;
    }

    public int cycleOf(int i) {
        return isInstr(i) ? issue[i] : UNSET;
    }

    public int schedule() {
        if (n == 0) {
            return 0;
        }
        int length = longestChain();
        while (length < MAX_LENGTH && !fits(0, length)) {
            length++;
        }
        // Lexicographically least: each in turn takes the first cycle that the later ones allow.
        for (int i = 0; i < n; i++) {
            int last = length - latencyOf(i);
            for (int c = 0; c <= last; c++) {
                issue[i] = c;
                if (fits(i + 1, length)) {
                    break;
                }
            }
        }
        return length;
    }

    public int check() {
        if (n == 0) {
            return CHK_EMPTY;
        }
        if (hasUnset()) {
            return CHK_UNSET;
        }
        if (breaksDependence()) {
            return CHK_DEP;
        }
        if (overfills(UNIT_ISSUE)) {
            return CHK_WIDTH;
        }
        if (overfills(UNIT_MEMORY)) {
            return CHK_MEM;
        }
        if (overfills(UNIT_MULTIPLIER)) {
            return CHK_MUL;
        }
        return lengthOfCycles();
    }

    public int run() {
        if (n == 0 || hasUnset()) {
            return -1;
        }
        runSequential();
        runMachine();
        int differing = 0;
        for (int loc = 0; loc < LOCS; loc++) {
            if (sequential[loc] != machine[loc]) {
                differing++;
            }
        }
        return differing;
    }

    public int seqValue(int loc) {
        return isLocation(loc) ? sequential[loc] : 0;
    }

    public int machValue(int loc) {
        return isLocation(loc) ? machine[loc] : 0;
    }

    public int edgeKinds(int i, int j) {
        return isPair(i, j) ? kindsOfPair(i, j) : 0;
    }

    public int edgeDelay(int i, int j) {
        return isPair(i, j) ? delayOfPair(i, j) : NO_EDGE;
    }

    public int criticalPath() {
        return longestChain();
    }

    public int bundleAt(int cycle, int slot) {
        if (cycle < 0 || cycle >= MAX_CYCLE || slot < 0) {
            return -1;
        }
        int before = 0;
        for (int i = 0; i < n; i++) {
            if (issue[i] == cycle) {
                if (before == slot) {
                    return i;
                }
                before++;
            }
        }
        return -1;
    }

    private static int clampLatency(int latency) {
        if (latency < 1) {
            return 1;
        }
        return latency > MAX_LATENCY ? MAX_LATENCY : latency;
    }

    private static boolean isWellFormed(int op, int d, int a, int b) {
        if (op < OP_LDI || op > OP_STORE || !isRegister(d)) {
            return false;
        }
        if (op == OP_LDI) {
            return true;
        }
        if (!isRegister(a)) {
            return false;
        }
        return op == OP_LOAD || op == OP_STORE || isRegister(b);
    }

    private static boolean isRegister(int r) {
        return r >= 0 && r < REGS;
    }

    private static boolean isLocation(int loc) {
        return loc >= 0 && loc < LOCS;
    }

    private boolean isInstr(int i) {
        return i >= 0 && i < n;
    }

    private boolean isPair(int i, int j) {
        return i >= 0 && i < j && j < n;
    }

    /** The scarce unit that the opcode needs beside an issue slot. */
    private static int unitFor(int op) {
        if (op == OP_MUL) {
            return UNIT_MULTIPLIER;
        }
        return op == OP_LOAD || op == OP_STORE ? UNIT_MEMORY : UNIT_ISSUE;
    }

    private static int capacityOf(int unit) {
        return unit == UNIT_ISSUE ? ISSUE_WIDTH : 1;
    }

    private boolean uses(int i, int unit) {
        return unit == UNIT_ISSUE || unitOf[i] == unit;
    }

    /** Whether no cycle can hold both, as they need the same scarce unit. */
    private boolean shareUnit(int i, int j) {
        return unitOf[i] != UNIT_ISSUE && unitOf[i] == unitOf[j];
    }

    private int latencyOf(int i) {
        if (opcode[i] == OP_MUL) {
            return mulLatency;
        }
        return opcode[i] == OP_LOAD ? loadLatency : 1;
    }

    /** The registers that instruction i reads, one bit each. */
    private int readsOf(int i) {
        switch (opcode[i]) {
            case OP_LDI:
                return 0;
            case OP_LOAD:
                return 1 << fieldA[i];
            case OP_STORE:
                return (1 << fieldA[i]) | (1 << fieldD[i]);
            default:
                return (1 << fieldA[i]) | (1 << fieldB[i]);
        }
    }

    /** The register that instruction i writes, as a bit. */
    private int writesOf(int i) {
        return opcode[i] == OP_STORE ? 0 : 1 << fieldD[i];
    }

    private int kindsOfPair(int i, int j) {
        int readsI = readsOf(i);
        int readsJ = readsOf(j);
        int writesI = writesOf(i);
        int writesJ = writesOf(j);
        int kinds = 0;
        if ((writesI & readsJ) != 0 || (opcode[i] == OP_STORE && opcode[j] == OP_LOAD)) {
            kinds |= EDGE_TRUE;
        }
        if ((readsI & writesJ) != 0 || (opcode[i] == OP_LOAD && opcode[j] == OP_STORE)) {
            kinds |= EDGE_ANTI;
        }
        if ((writesI & writesJ) != 0 || (opcode[i] == OP_STORE && opcode[j] == OP_STORE)) {
            kinds |= EDGE_OUTPUT;
        }
        return kinds;
    }

    private int delayOfPair(int i, int j) {
        int kinds = kindsOfPair(i, j);
        if (kinds == 0) {
            return NO_EDGE;
        }
        int latencyI = latencyOf(i);
        int latencyJ = latencyOf(j);
        int greatest = 0;
        if ((kinds & EDGE_OUTPUT) != 0) {
            greatest = latencyI > latencyJ ? latencyI - latencyJ + 1 : 1;
        }
        if ((kinds & EDGE_TRUE) != 0 && latencyI > greatest) {
            greatest = latencyI;
        }
        return greatest;
    }

    /** The critical path; leaves for the search how long each has to wait for each before it. */
    private int longestChain() {
        int longest = 0;
        for (int j = 0; j < n; j++) {
            earliest[j] = 0;
            for (int i = 0; i < j; i++) {
                int wait = delayOfPair(i, j);
                waits[i * MAX_INSTR + j] = wait == 0 && shareUnit(i, j) ? 1 : wait;
                if (wait != NO_EDGE && earliest[i] + wait > earliest[j]) {
                    earliest[j] = earliest[i] + wait;
                }
            }
            int end = earliest[j] + latencyOf(j);
            if (end > longest) {
                longest = end;
            }
        }
        return longest;
    }

    /**
     * Whether the instructions before number settled can keep their cycles in a valid schedule.
     * The others are placed by ascending cycle, and within a cycle by ascending index, each in the
     * first cycle that any of them can still have. That misses nothing: in a schedule that has none
     * of them there, the lowest of those that can be there can be moved there.
     */
    private boolean fits(int settled, int length) {
        for (int i = 0; i < n; i++) {
            trial[i] = i < settled ? issue[i] : UNSET;
        }
        int depth = 0;
        for (int step = 0; step < MAX_STEPS; step++) {
            if (leavesChance(depth, length)) {
                int next = firstInLine();
                if (next < 0) {
                    return true;
                }
                place(next, depth);
                depth++;
            } else {
                depth = retreat(depth);
                if (depth == 0) {
                    return false;
                }
            }
        }
        return false;
    }

    /** The lowest of those that can have the first cycle left; -1 if all are placed. */
    private int firstInLine() {
        int first = -1;
        for (int i = 0; i < n; i++) {
            if (trial[i] == UNSET && (first < 0 || earliest[i] < earliest[first])) {
                first = i;
            }
        }
        return first;
    }

    private void place(int next, int depth) {
        int others = 0;
        for (int i = next + 1; i < n; i++) {
            if (trial[i] == UNSET && earliest[i] == earliest[next]) {
                others |= 1 << i;
            }
        }
        placed[depth] = next;
        rivals[depth] = others;
        trial[next] = earliest[next];
    }

    /** Gives the newest place that has a rival left to the next rival; the new depth. */
    private int retreat(int depth) {
        for (int left = depth; left > 0; left--) {
            int old = placed[left - 1];
            int cycle = trial[old];
            trial[old] = UNSET;
            for (int i = old + 1; i < n; i++) {
                if ((rivals[left - 1] >> i & 1) != 0) {
                    placed[left - 1] = i;
                    trial[i] = cycle;
                    return left;
                }
            }
        }
        return 0;
    }

    /** Finds what the cycles on trial leave to each instruction; false if that is a dead end. */
    private boolean leavesChance(int depth, int length) {
        openWindows(depth, length);
        for (int round = 0; round < MAX_ROUNDS; round++) {
            if (!narrowByEdges()) {
                return false;
            }
            int moved = narrowByStretches();
            if (moved <= 0) {
                return moved == 0;
            }
        }
        return true;
    }

    private void openWindows(int depth, int length) {
        int newest = depth == 0 ? -1 : placed[depth - 1];
        int cycle = depth == 0 ? 0 : trial[newest];
        for (int i = 0; i < n; i++) {
            if (trial[i] != UNSET) {
                earliest[i] = trial[i];
                latest[i] = trial[i];
            } else {
                earliest[i] = i > newest ? cycle : cycle + 1;
                latest[i] = length - latencyOf(i);
            }
        }
    }

    /** False if an instruction has no cycle left. */
    private boolean narrowByEdges() {
        for (int j = 0; j < n; j++) {
            for (int i = 0; i < j; i++) {
                int wait = waits[i * MAX_INSTR + j];
                if (wait != NO_EDGE && earliest[i] + wait > earliest[j]) {
                    earliest[j] = earliest[i] + wait;
                }
            }
        }
        for (int i = n - 1; i >= 0; i--) {
            for (int j = i + 1; j < n; j++) {
                int wait = waits[i * MAX_INSTR + j];
                if (wait != NO_EDGE && latest[j] - wait < latest[i]) {
                    latest[i] = latest[j] - wait;
                }
            }
            if (earliest[i] > latest[i]) {
                return false;
            }
        }
        return true;
    }

    /**
     * How many windows it moved; CROWDED if more instructions must go into a stretch of cycles
     * than the machine can issue there. With all cycles on trial that is the rule for bundles.
     */
    private int narrowByStretches() {
        int moved = 0;
        for (int i = 0; i < n; i++) {
            for (int j = 0; j < n; j++) {
                int first = earliest[i];
                int last = latest[j];
                for (int unit = UNIT_ISSUE; first <= last && unit <= UNIT_MULTIPLIER; unit++) {
                    int spare = spareRoom(first, last, unit);
                    if (spare < 0) {
                        return CROWDED;
                    }
                    if (spare == 0) {
                        moved += keepOut(first, last, unit);
                    }
                }
            }
        }
        return moved;
    }

    /** What those that must issue from cycle first to cycle last leave of the unit there. */
    private int spareRoom(int first, int last, int unit) {
        int needed = 0;
        for (int i = 0; i < n; i++) {
            if (earliest[i] >= first && latest[i] <= last && uses(i, unit)) {
                needed++;
            }
        }
        int room = (last - first + 1) * capacityOf(unit);
        // A bundle that is full without the unit leaves the unit idle.
        if (unit != UNIT_ISSUE && needed > 0) {
            room -= bundlesFullWithout(first, last, unit);
        }
        return room - needed;
    }

    private int bundlesFullWithout(int first, int last, int unit) {
        int full = 0;
        for (int i = 0; i < n; i++) {
            if (trial[i] >= first && trial[i] <= last && unitOf[i] != unit) {
                for (int j = 0; j < i; j++) {
                    if (trial[j] == trial[i] && unitOf[j] != unit) {
                        full++;
                    }
                }
            }
        }
        return full;
    }

    /** A stretch without spare room is closed to all that could also issue outside it. */
    private int keepOut(int first, int last, int unit) {
        int moved = 0;
        for (int i = 0; i < n; i++) {
            boolean startsInside = earliest[i] >= first && earliest[i] <= last;
            boolean endsInside = latest[i] >= first && latest[i] <= last;
            if (uses(i, unit) && startsInside != endsInside) {
                if (startsInside) {
                    earliest[i] = last + 1;
                } else {
                    latest[i] = first - 1;
                }
                moved++;
            }
        }
        return moved;
    }

    private boolean hasUnset() {
        for (int i = 0; i < n; i++) {
            if (issue[i] == UNSET) {
                return true;
            }
        }
        return false;
    }

    private boolean breaksDependence() {
        for (int i = 0; i < n; i++) {
            for (int j = i + 1; j < n; j++) {
                int wait = delayOfPair(i, j);
                if (wait != NO_EDGE && issue[j] < issue[i] + wait) {
                    return true;
                }
            }
        }
        return false;
    }

    private boolean overfills(int unit) {
        for (int i = 0; i < n; i++) {
            int together = 0;
            for (int j = 0; j < n; j++) {
                if (issue[j] == issue[i] && uses(j, unit)) {
                    together++;
                }
            }
            if (together > capacityOf(unit)) {
                return true;
            }
        }
        return false;
    }

    private int lengthOfCycles() {
        int length = 0;
        for (int i = 0; i < n; i++) {
            int end = issue[i] + latencyOf(i);
            if (end > length) {
                length = end;
            }
        }
        return length;
    }

    private void runSequential() {
        startFromInitial(sequential);
        for (int i = 0; i < n; i++) {
            compute(i, sequential);
            sequential[pendingTarget[i]] = pendingValue[i];
        }
    }

    private void runMachine() {
        startFromInitial(machine);
        int end = lengthOfCycles();
        for (int t = 0; t < end; t++) {
            issueAt(t);
            writeAt(t);
        }
    }

    private void issueAt(int t) {
        for (int i = 0; i < n; i++) {
            if (issue[i] == t) {
                compute(i, machine);
            }
        }
    }

    private void writeAt(int t) {
        for (int i = 0; i < n; i++) {
            int due = issue[i] + latencyOf(i) - 1;
            if (due == t) {
                machine[pendingTarget[i]] = pendingValue[i];
            }
        }
    }

    private void startFromInitial(int[] state) {
        for (int loc = 0; loc < LOCS; loc++) {
            state[loc] = initial[loc];
        }
    }

    /** Keeps what instruction i will write, and where, as the state now gives it. */
    private void compute(int i, int[] state) {
        int d = fieldD[i];
        int a = fieldA[i];
        int b = fieldB[i];
        pendingTarget[i] = d;
        switch (opcode[i]) {
            case OP_LDI:
                pendingValue[i] = a;
                break;
            case OP_ADD:
                pendingValue[i] = state[a] + state[b];
                break;
            case OP_SUB:
                pendingValue[i] = state[a] - state[b];
                break;
            case OP_MUL:
                pendingValue[i] = state[a] * state[b];
                break;
            case OP_LOAD:
                pendingValue[i] = state[REGS + ((state[a] + b) & ADDRESS_MASK)];
                break;
            default:
                pendingValue[i] = state[d];
                pendingTarget[i] = REGS + ((state[a] + b) & ADDRESS_MASK);
                break;
        }
    }
}
