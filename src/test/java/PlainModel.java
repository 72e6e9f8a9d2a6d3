import java.util.ArrayList;
import java.util.List;
import java.util.Set;

/** The document once more, word by word and without any cleverness, to compare the class with. */
final class PlainModel {
    private record Instr(int op, int d, int a, int b) {
        Set<Integer> reads() {
            return switch (op) {
                case 1 -> Set.of();
                case 5 -> Set.of(a);
                case 6 -> a == d ? Set.of(a) : Set.of(a, d);
                default -> a == b ? Set.of(a) : Set.of(a, b);
            };
        }

        Set<Integer> writes() {
            return op == 6 ? Set.of() : Set.of(d);
        }

        boolean memory() {
            return op == 5 || op == 6;
        }
    }

    private final int mulLatency;
    private final int loadLatency;
    private final List<Instr> block = new ArrayList<>();
    private final List<Integer> cycles = new ArrayList<>();
    private final int[] initial = new int[16];
    private int[] sequential = new int[16];
    private int[] machine = new int[16];

    PlainModel(int mulLatency, int loadLatency) {
        this.mulLatency = Math.max(1, Math.min(4, mulLatency));
        this.loadLatency = Math.max(1, Math.min(4, loadLatency));
    }

    int addInstr(int op, int d, int a, int b) {
        boolean full = block.size() == 10;
        boolean badOp = op < 1 || op > 6;
        boolean badD = d < 0 || d > 7;
        boolean badA = op >= 2 && (a < 0 || a > 7);
        boolean badB = op >= 2 && op <= 4 && (b < 0 || b > 7);
        if (full || badOp || badD || badA || badB) {
            return -1;
        }
        block.add(new Instr(op, d, a, b));
        cycles.add(-1);
        return block.size() - 1;
    }

    void clear() {
        block.clear();
        cycles.clear();
    }

    boolean setInit(int loc, int value) {
        if (loc < 0 || loc > 15) {
            return false;
        }
        initial[loc] = value;
        return true;
    }

    boolean setCycle(int i, int c) {
        if (i < 0 || i >= block.size() || c < -1 || c > 63) {
            return false;
        }
        cycles.set(i, c);
        return true;
    }

    int cycleOf(int i) {
        return i < 0 || i >= block.size() ? -1 : cycles.get(i);
    }

    int latency(int i) {
        return switch (block.get(i).op) {
            case 4 -> mulLatency;
            case 5 -> loadLatency;
            default -> 1;
        };
    }

    private static boolean meet(Set<Integer> one, Set<Integer> other) {
        return one.stream().anyMatch(other::contains);
    }

    int edgeKinds(int i, int j) {
        if (i < 0 || i >= j || j >= block.size()) {
            return 0;
        }
        Instr x = block.get(i);
        Instr y = block.get(j);
        int kinds = 0;
        if (meet(y.reads(), x.writes()) || x.op == 6 && y.op == 5) {
            kinds += 1;
        }
        if (meet(y.writes(), x.reads()) || x.op == 5 && y.op == 6) {
            kinds += 2;
        }
        if (meet(x.writes(), y.writes()) || x.op == 6 && y.op == 6) {
            kinds += 4;
        }
        return kinds;
    }

    int edgeDelay(int i, int j) {
        int kinds = edgeKinds(i, j);
        int delay = -1;
        if ((kinds & 1) != 0) {
            delay = Math.max(delay, latency(i));
        }
        if ((kinds & 2) != 0) {
            delay = Math.max(delay, 0);
        }
        if ((kinds & 4) != 0) {
            delay = Math.max(delay, Math.max(1, latency(i) - latency(j) + 1));
        }
        return delay;
    }

    int criticalPath() {
        int longest = 0;
        for (int i = 0; i < block.size(); i++) {
            longest = Math.max(longest, chainFrom(i));
        }
        return longest;
    }

    private int chainFrom(int i) {
        int longest = latency(i);
        for (int j = i + 1; j < block.size(); j++) {
            if (edgeKinds(i, j) != 0) {
                longest = Math.max(longest, edgeDelay(i, j) + chainFrom(j));
            }
        }
        return longest;
    }

    int bundleAt(int cycle, int slot) {
        if (cycle < 0 || cycle > 63 || slot < 0) {
            return -1;
        }
        List<Integer> bundle = new ArrayList<>();
        for (int i = 0; i < block.size(); i++) {
            if (cycles.get(i) == cycle) {
                bundle.add(i);
            }
        }
        return slot < bundle.size() ? bundle.get(slot) : -1;
    }

    int check() {
        int n = block.size();
        if (n == 0) {
            return -1;
        }
        if (cycles.contains(-1)) {
            return -2;
        }
        for (int i = 0; i < n; i++) {
            for (int j = i + 1; j < n; j++) {
                if (edgeKinds(i, j) != 0 && cycles.get(j) < cycles.get(i) + edgeDelay(i, j)) {
                    return -3;
                }
            }
        }
        int[] all = new int[64];
        int[] memory = new int[64];
        int[] multiplies = new int[64];
        for (int i = 0; i < n; i++) {
            int c = cycles.get(i);
            all[c]++;
            memory[c] += block.get(i).memory() ? 1 : 0;
            multiplies[c] += block.get(i).op == 4 ? 1 : 0;
        }
        if (most(all) > 2) {
            return -4;
        }
        if (most(memory) > 1) {
            return -5;
        }
        return most(multiplies) > 1 ? -6 : length();
    }

    private static int most(int[] counts) {
        return java.util.Arrays.stream(counts).max().getAsInt();
    }

    private int length() {
        int length = 0;
        for (int i = 0; i < block.size(); i++) {
            length = Math.max(length, cycles.get(i) + latency(i));
        }
        return length;
    }

    int run() {
        if (block.isEmpty() || cycles.contains(-1)) {
            return -1;
        }
        sequential = initial.clone();
        for (int i = 0; i < block.size(); i++) {
            sequential[target(i, sequential)] = value(i, sequential);
        }
        runMachine();
        int differ = 0;
        for (int loc = 0; loc < 16; loc++) {
            differ += sequential[loc] != machine[loc] ? 1 : 0;
        }
        return differ;
    }

    private void runMachine() {
        int n = block.size();
        int[] state = initial.clone();
        int[] target = new int[n];
        int[] value = new int[n];
        int end = length();
        for (int t = 0; t < end; t++) {
            for (int i = 0; i < n; i++) {
                if (cycles.get(i) == t) {
                    target[i] = target(i, state);
                    value[i] = value(i, state);
                }
            }
            for (int i = 0; i < n; i++) {
                if (cycles.get(i) + latency(i) - 1 == t) {
                    state[target[i]] = value[i];
                }
            }
        }
        machine = state;
    }

    private int target(int i, int[] state) {
        Instr x = block.get(i);
        return x.op == 6 ? 8 + Math.floorMod(state[x.a] + x.b, 8) : x.d;
    }

    private int value(int i, int[] state) {
        Instr x = block.get(i);
        return switch (x.op) {
            case 1 -> x.a;
            case 2 -> state[x.a] + state[x.b];
            case 3 -> state[x.a] - state[x.b];
            case 4 -> state[x.a] * state[x.b];
            case 5 -> state[8 + Math.floorMod(state[x.a] + x.b, 8)];
            default -> state[x.d];
        };
    }

    int seqValue(int loc) {
        return loc < 0 || loc > 15 ? 0 : sequential[loc];
    }

    int machValue(int loc) {
        return loc < 0 || loc > 15 ? 0 : machine[loc];
    }

    /** Tries all vectors of cycles in lexicographic order, for one length after the other. */
    int schedule() {
        int n = block.size();
        if (n == 0) {
            return 0;
        }
        int[] delays = new int[n * n];
        int[] tails = new int[n];
        for (int i = 0; i < n; i++) {
            tails[i] = chainFrom(i);
            for (int j = 0; j < n; j++) {
                delays[i * n + j] = edgeDelay(i, j);
            }
        }
        int[] c = new int[n];
        for (int length = criticalPath();; length++) {
            if (enoughPorts(length) && place(0, c, length, delays, tails)) {
                for (int i = 0; i < n; i++) {
                    cycles.set(i, c[i]);
                }
                return length;
            }
        }
    }

    // Spares the search the lengths in which the ops of one unit have not enough cycles.
    private boolean enoughPorts(int length) {
        long memory = block.stream().filter(Instr::memory).count();
        long multiplies = block.stream().filter(x -> x.op == 4).count();
        return memory <= length && multiplies <= length && block.size() <= 2 * length;
    }

    private boolean place(int i, int[] c, int length, int[] delays, int[] tails) {
        int n = block.size();
        if (i == n) {
            return true;
        }
        int from = 0;
        for (int p = 0; p < i; p++) {
            if (delays[p * n + i] >= 0) {
                from = Math.max(from, c[p] + delays[p * n + i]);
            }
        }
        for (int t = from; t <= length - tails[i]; t++) {
            c[i] = t;
            if (hasRoom(i, c) && place(i + 1, c, length, delays, tails)) {
                return true;
            }
        }
        return false;
    }

    private boolean hasRoom(int i, int[] c) {
        int together = 0;
        for (int p = 0; p < i; p++) {
            if (c[p] == c[i]) {
                together++;
                boolean bothMemory = block.get(p).memory() && block.get(i).memory();
                boolean bothMultiply = block.get(p).op == 4 && block.get(i).op == 4;
                if (bothMemory || bothMultiply) {
                    return false;
                }
            }
        }
        return together < 2;
    }
}
