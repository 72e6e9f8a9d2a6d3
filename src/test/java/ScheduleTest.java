/** Promise 6: finding the optimal schedule. */
public final class ScheduleTest {
    // Blocks on which this search or a simpler one takes long: mulLatency, loadLatency, then op, d, a, b each.
    private static final int[][] HARD = {
        {4, 4, 1, 5, 3, 7, 2, 0, 7, 0, 1, 7, 0, 5, 1, 1, 1, 5, 1, 6, 4, 4, 5, 2, 2, 3, 5, 3, 2, 3,
            5, 2, 2, 0, 4, 2, 3, 2, 4, 3, 3, 4},
        {3, 2, 2, 6, 3, 0, 1, 0, 0, 0, 5, 6, 6, 3, 5, 4, 7, 5, 5, 0, 0, 6, 5, 0, 7, 4, 5, 1, 7, 3,
            5, 2, 2, 0, 5, 5, 5, 4, 5, 3, 7, 4},
        {4, 1, 5, 2, 3, 7, 5, 4, 3, 3, 5, 4, 4, 2, 5, 7, 7, 6, 5, 6, 3, 1, 3, 4, 6, 7, 5, 0, 0, 2,
            5, 5, 1, 7, 1, 0, 6, 3, 1, 1, 3, 4},
        {2, 3, 1, 7, 5, 4, 1, 2, 7, 1, 1, 4, 5, 5, 5, 5, 5, 1, 1, 6, 5, 0, 4, 2, 4, 2, 4, 6, 6, 3,
            5, 1, 3, 6, 1, 0, 3, 6, 4, 0, 0, 3},
        {4, 2, 2, 6, 0, 5, 4, 3, 4, 3, 5, 3, 4, 6, 4, 7, 4, 7, 5, 6, 7, 2, 5, 0, 7, 4, 5, 1, 7, 3,
            5, 5, 7, 6, 5, 4, 7, 4, 5, 2, 7, 5},
        {4, 4, 2, 3, 0, 6, 2, 4, 7, 0, 4, 3, 2, 7, 1, 3, 4, 4, 6, 6, 1, 1, 4, 1, 5, 1, 4, 4, 6, 7,
            4, 5, 5, 5, 4, 2, 7, 6, 4, 0, 0, 6},
        {1, 3, 5, 5, 2, 6, 4, 0, 0, 2, 4, 0, 2, 3, 4, 4, 4, 4, 4, 7, 7, 3, 4, 1, 6, 2, 4, 7, 6, 7,
            4, 4, 6, 3, 2, 6, 6, 3, 3, 3, 0, 5},
        {3, 3, 2, 4, 3, 5, 5, 0, 4, 1, 5, 7, 4, 1, 5, 5, 4, 5, 5, 7, 1, 1, 2, 6, 2, 3, 5, 2, 3, 3,
            5, 3, 3, 1, 5, 5, 4, 7, 5, 6, 6, 6},
        {2, 1, 5, 0, 0, 1, 5, 1, 1, 6, 5, 3, 6, 7, 5, 7, 6, 0, 5, 5, 6, 4, 5, 4, 6, 1, 5, 2, 2, 2,
            6, 3, 3, 0, 3, 3, 6, 0, 1, 0, 2, 0},
        {1, 1, 1, 1, 6, 2, 6, 6, 6, 1, 1, 5, 2, 6, 2, 0, 4, 6, 2, 3, 6, 4, 1, 2, 2, 2, 2, 7, 4, 6,
            3, 5, 6, 4, 5, 4, 2, 3, 5, 6, 6, 0},
        {2, 1, 5, 2, 2, 4, 5, 6, 4, 0, 5, 7, 7, 6, 5, 0, 4, 3, 5, 3, 5, 6, 5, 1, 4, 6, 6, 3, 4, 1,
            3, 3, 1, 5, 4, 1, 1, 1, 4, 5, 0, 5},
    };

    public static void main(String[] args) {
        Due due = new Due();
        emptyBlock(due);
        judgedAndRunWhileEmpty(due);
        knownBlocks(due);
        shortestLength(due);
        longestLength(due);
        cyclesLieInRange(due);
        narrowUnits(due);
        oldCyclesDoNotMatter(due);
        whatComesBetweenDoesNotMatter(due);
        nothingElseChanges(due);
        checkAnswersTheLength(due);
        noThirdSlotIsFilled(due);
        runFindsNoDifference(due);
        criticalPathIsNoLonger(due);
        noValidScheduleIsBetter(due);
        noStateIsShorter(due);
        hardBlocks(due);
        mixedBlocks(due);
        due.end();
    }

    // 'if n == 0, it answers 0 and changes nothing'
    private static void emptyBlock(Due due) {
        for (States.State state : States.ALL) {
            String empty = "schedule() of an empty block, " + state.name();
            BlockSchedOpt x = state.make();
            x.clear();
            due.is(empty, x.schedule(), 0);
            States.alike(due, "after " + empty, States.after(state, y -> {
                y.clear();
                y.schedule();
            }), States.after(state, y -> y.clear()));
        }
    }

    // 'With n == 0, check() still answers CHK_EMPTY and run() still answers -1.'
    private static void judgedAndRunWhileEmpty(Due due) {
        for (States.State state : States.ALL) {
            BlockSchedOpt x = state.make();
            x.clear();
            x.schedule();
            due.is("check() after schedule() while empty, " + state.name(), x.check(), BlockSchedOpt.CHK_EMPTY);
            due.is("run() after schedule() while empty, " + state.name(), x.run(), -1);
        }
    }

    private static void expect(Due due, String what, BlockSchedOpt x, int length, int... cycles) {
        due.is("schedule() of " + what, x.schedule(), length);
        due.same("cycles of " + what, Look.cycles(x, cycles.length), cycles);
        due.is("check() of " + what, x.check(), length);
        due.is("run() of " + what, x.run(), 0);
    }

    private static void knownBlocks(Due due) {
        expect(due, "three LDIs", Look.block(1, 1, 1, 0, 1, 0, 1, 1, 1, 0, 1, 2, 1, 0), 2, 0, 0, 1);
        expect(due, "two LOADs", Look.block(1, 2, 5, 0, 7, 0, 5, 1, 7, 0), 3, 0, 1);
        expect(due, "two MULs", Look.block(3, 1, 4, 0, 7, 7, 4, 1, 7, 7), 4, 0, 1);
        expect(due, "LOAD and MUL", Look.block(3, 1, 5, 0, 7, 0, 4, 1, 7, 7), 3, 0, 0);
        expect(due, "reader and writer in one cycle", Look.block(1, 1, 2, 0, 1, 1, 1, 1, 9, 0), 1, 0, 0);
        expect(due, "a MUL overtaken by an LDI's write", Look.block(4, 1, 4, 0, 1, 1, 1, 0, 9, 0), 5, 0, 4);
        expect(due, "an LDI before a MUL", Look.block(4, 1, 1, 0, 9, 0, 4, 0, 1, 1), 5, 0, 1);
        // The length comes first: the first MUL gives way to the one that has a chain behind it.
        expect(due, "a MUL that gives way", Look.block(4, 1, 4, 0, 7, 7, 4, 1, 7, 7, 4, 2, 1, 1), 8, 1, 0, 4);
        expect(due, "LDIs that give way", Look.block(4, 4, 1, 0, 1, 0, 1, 1, 1, 0, 1, 2, 1, 0, 4, 3, 7, 7),
                4, 0, 1, 1, 0);
        // With the length at its least, an earlier number goes first although a later one could.
        expect(due, "slack for the later ones", Look.block(4, 1, 4, 0, 7, 7, 1, 1, 1, 0, 1, 2, 1, 0), 4, 0, 0, 1);
    }

    // 'answers its length, which is in 1..40': the 1
    private static void shortestLength(Due due) {
        for (int op = 1; op <= 6; op++) {
            expect(due, "one of op " + op + " at latency 1", Look.block(1, 1, op, 0, 1, 2), 1, 0);
        }
        expect(due, "one LDI at latency 4", Look.block(4, 4, 1, 0, 1, 2), 1, 0);
        expect(due, "one STORE at latency 4", Look.block(4, 4, 6, 0, 1, 2), 1, 0);
        expect(due, "one MUL at latency 4", Look.block(4, 3, 4, 0, 1, 2), 4, 0);
        expect(due, "one LOAD at latency 3", Look.block(4, 3, 5, 0, 1, 2), 3, 0);
        expect(due, "two LDIs", Look.block(4, 4, 1, 0, 1, 0, 1, 1, 1, 0), 1, 0, 0);
    }

    // 'answers its length, which is in 1..40': the 40
    private static void longestLength(Due due) {
        for (int latency = 1; latency <= 4; latency++) {
            int[] fields = new int[40];
            int[] cycles = new int[10];
            for (int i = 0; i < 10; i++) {
                fields[4 * i] = i % 2 == 0 ? 4 : 5;
                cycles[i] = latency * i;
            }
            expect(due, "ten in one chain", Look.block(latency, latency, fields), 10 * latency, cycles);
        }
        expect(due, "ten in one chain, latencies clamped", tenAlike(9, 9, 4, 0),
                40, 0, 4, 8, 12, 16, 20, 24, 28, 32, 36);
    }

    // 'All cycles it sets are in 0..63.'
    private static void cyclesLieInRange(Due due) {
        for (States.State state : States.ALL) {
            BlockSchedOpt x = state.make();
            x.schedule();
            for (int i = 0; i < state.n(); i++) {
                due.is("cycleOf(" + i + ") in 0..63, " + state.name(), x.cycleOf(i) >= 0 && x.cycleOf(i) <= 63, true);
            }
        }
    }

    private static BlockSchedOpt tenAlike(int mulLatency, int loadLatency, int op, int register) {
        BlockSchedOpt x = new BlockSchedOpt(mulLatency, loadLatency);
        for (int i = 0; i < 10; i++) {
            x.addInstr(op, 0, register, register);
        }
        return x;
    }

    // Two in a cycle, one memory op in a cycle, one MUL in a cycle, each with as many as there can be.
    private static void narrowUnits(Due due) {
        BlockSchedOpt ldis = new BlockSchedOpt(4, 4);
        BlockSchedOpt stores = new BlockSchedOpt(4, 4);
        for (int i = 0; i < 10; i++) {
            ldis.addInstr(1, i % 8, i, 0);
            stores.addInstr(6, i % 8, 0, i);
        }
        expect(due, "ten LDIs", ldis, 5, 0, 0, 1, 1, 2, 2, 3, 3, 4, 4);
        expect(due, "ten STOREs", stores, 10, 0, 1, 2, 3, 4, 5, 6, 7, 8, 9);
        expect(due, "ten MULs of one register", tenAlike(1, 1, 4, 7), 10, 0, 1, 2, 3, 4, 5, 6, 7, 8, 9);
        expect(due, "ten LOADs of one register", tenAlike(1, 4, 5, 7), 13, 0, 1, 2, 3, 4, 5, 6, 7, 8, 9);
        expect(due, "MULs and LOADs by turns",
                Look.block(2, 2, 4, 0, 7, 7, 5, 1, 7, 0, 4, 2, 7, 7, 5, 3, 7, 0, 4, 4, 7, 7, 5, 5, 7, 0),
                4, 0, 0, 1, 1, 2, 2);
    }

    // 'replacing whatever cycles were set or unset before'
    private static void oldCyclesDoNotMatter(Due due) {
        int[] fields = {1, 1, 5, 0, 5, 2, 0, 0, 4, 3, 1, 2, 2, 4, 1, 1, 6, 3, 0, 1, 3, 1, 4, 2};
        BlockSchedOpt x = Look.block(3, 2, fields);
        int[] best = {0, 0, 2, 1, 5, 2};
        expect(due, "the block when unset", x, 6, best);
        expect(due, "the block once more", x, 6, best);
        int[][] before = {{63, 0, 5, -1, 5, 5}, {63, 63, 63, 63, 63, 63}, {-1, -1, -1, -1, -1, -1},
            {0, 0, 0, 0, 0, 0}, {5, 4, 3, 2, 1, 0}, {-1, 0, 2, 1, 5, 2}};
        for (int[] cycles : before) {
            Look.setCycles(x, cycles);
            expect(due, "the block with other cycles", x, 6, best);
        }
    }

    // 'calling it again without an intervening successful addInstr or clear() gives the same'
    private static void whatComesBetweenDoesNotMatter(Due due) {
        for (States.State state : States.ALL) {
            BlockSchedOpt x = state.make();
            int length = x.schedule();
            int[] cycles = Look.cycles(x, state.n());
            for (int loc = -1; loc <= 16; loc++) {
                x.setInit(loc, 31 * loc);
            }
            x.run();
            x.addInstr(0, 0, 0, 0);
            x.addInstr(1, 8, 0, 0);
            x.setCycle(0, 63);
            x.setCycle(state.n() - 1, -1);
            x.run();
            x.criticalPath();
            due.is("schedule() again, " + state.name(), x.schedule(), length);
            due.same("cycles again, " + state.name(), Look.cycles(x, state.n()), cycles);
        }
        // A full block refuses every addInstr.
        BlockSchedOpt full = tenAlike(4, 4, 4, 0);
        full.schedule();
        full.addInstr(1, 0, 0, 0);
        due.is("schedule() after addInstr to a full block", full.schedule(), 40);
    }

    // 'Nothing else changes: instructions, initial values, result values and latencies stay as they were.'
    private static void nothingElseChanges(Due due) {
        for (States.State state : States.ALL) {
            BlockSchedOpt x = state.make();
            x.schedule();
            int[] cycles = Look.cycles(x, state.n());
            States.alike(due, "after schedule(), " + state.name(),
                    States.after(state, y -> y.schedule()), States.after(state, y -> Look.setCycles(y, cycles)));
        }
    }

    // 'If n >= 1, immediately afterwards check() answers exactly S'
    private static void checkAnswersTheLength(Due due) {
        for (States.State state : States.ALL) {
            if (state.n() >= 1) {
                BlockSchedOpt x = state.make();
                int length = x.schedule();
                due.is("1..40, " + state.name(), length >= 1 && length <= 40, true);
                due.is("check() = S, " + state.name(), x.check(), length);
            }
        }
    }

    // 'bundleAt(t, 2) is -1 for every t'
    private static void noThirdSlotIsFilled(Due due) {
        for (States.State state : States.ALL) {
            BlockSchedOpt x = state.make();
            x.schedule();
            for (int t = -1; t <= 64; t++) {
                due.is("bundleAt(" + t + ", 2), " + state.name(), x.bundleAt(t, 2), -1);
            }
        }
    }

    // 'and run() answers 0'
    private static void runFindsNoDifference(Due due) {
        for (States.State state : States.ALL) {
            if (state.n() >= 1) {
                BlockSchedOpt x = state.make();
                x.schedule();
                due.is("run() of the schedule, " + state.name(), x.run(), 0);
                due.same("its values, " + state.name(), Look.machine(x), Look.sequential(x));
            }
        }
    }

    // 'The answer S satisfies criticalPath() <= S.'
    private static void criticalPathIsNoLonger(Due due) {
        for (States.State state : States.ALL) {
            BlockSchedOpt x = state.make();
            due.is("criticalPath() <= S, " + state.name(), x.criticalPath() <= x.schedule(), true);
        }
        // Both sides of it: a block that is as short as its chain, and one that the width holds up.
        BlockSchedOpt chain = Look.block(4, 4, 4, 0, 0, 0, 4, 0, 0, 0);
        due.is("criticalPath() of a chain", chain.criticalPath(), 8);
        due.is("schedule() of a chain", chain.schedule(), 8);
        BlockSchedOpt wide = Look.block(4, 4, 1, 0, 0, 0, 1, 1, 0, 0, 1, 2, 0, 0);
        due.is("criticalPath() of three LDIs", wide.criticalPath(), 1);
        due.is("schedule() of three LDIs", wide.schedule(), 2);
    }

    // 'a valid schedule of least length, and among all such schedules the one whose vector of issue cycles is
    // lexicographically least', 'No valid schedule of the same block is shorter': all cycles up to one beyond
    // its length, judged by check() alone.
    private static void noValidScheduleIsBetter(Due due) {
        Numbers numbers = new Numbers(66);
        for (int round = 0; round < 400; round++) {
            BlockSchedOpt x = new BlockSchedOpt(numbers.in(1, 4), numbers.in(1, 4));
            int n = numbers.in(1, 4);
            for (int i = 0; i < n; i++) {
                x.addInstr(numbers.in(1, 6), numbers.in(0, 2), numbers.in(0, 2), numbers.in(0, 2));
            }
            int length = x.schedule();
            int[] cycles = Look.cycles(x, n);
            int range = length + 1;
            int best = Integer.MAX_VALUE;
            int[] bestCycles = {};
            for (int code = 0; code < Math.pow(range, n); code++) {
                int rest = code;
                for (int i = n - 1; i >= 0; i--) {
                    x.setCycle(i, rest % range);
                    rest /= range;
                }
                int judged = x.check();
                if (judged > 0 && judged < best) {
                    best = judged;
                    bestCycles = Look.cycles(x, n);
                }
            }
            due.is("schedule() in round " + round, length, best);
            due.same("cycles in round " + round, cycles, bestCycles);
        }
    }

    // 'in any state where check() answers a positive L, L is at least the value schedule() would answer in that
    // same state'
    private static void noStateIsShorter(Due due) {
        int valid = 0;
        for (States.State state : States.ALL) {
            int judged = state.make().check();
            if (judged > 0) {
                valid++;
                due.is("schedule() no longer, " + state.name(), state.make().schedule() <= judged, true);
            }
        }
        due.is("valid states met", valid, 3);
        Numbers numbers = new Numbers(67);
        for (int round = 0; round < 3000; round++) {
            BlockSchedOpt x = new BlockSchedOpt(numbers.in(1, 4), numbers.in(1, 4));
            int[] ops = new int[numbers.in(1, 10)];
            for (int i = 0; i < ops.length; i++) {
                ops[i] = numbers.in(1, 6);
                x.addInstr(ops[i], numbers.in(0, 7), numbers.in(0, 7), numbers.in(0, 7));
            }
            Look.setCycles(x, placeInMixedOrder(x, ops, numbers));
            int judged = x.check();
            due.is("valid by hand in round " + round, judged > 0, true);
            due.is("schedule() no longer in round " + round, x.schedule() <= judged, true);
        }
    }

    /** A valid schedule, often a short one: any that waits for none, as early as it can, and so on. */
    private static int[] placeInMixedOrder(BlockSchedOpt x, int[] ops, Numbers numbers) {
        int n = ops.length;
        int[] cycles = new int[n];
        java.util.Arrays.fill(cycles, -1);
        for (int placed = 0; placed < n; placed++) {
            int i = numbers.in(0, n - 1);
            while (cycles[i] >= 0 || earliest(x, i, cycles) < 0) {
                i = (i + 1) % n;
            }
            int c = earliest(x, i, cycles);
            while (!hasRoom(ops, cycles, i, c)) {
                c++;
            }
            cycles[i] = c;
        }
        return cycles;
    }

    /** -1 if it waits for one that has no cycle yet. */
    private static int earliest(BlockSchedOpt x, int i, int[] cycles) {
        int c = 0;
        for (int p = 0; p < i; p++) {
            if (x.edgeKinds(p, i) != 0) {
                if (cycles[p] < 0) {
                    return -1;
                }
                c = Math.max(c, cycles[p] + x.edgeDelay(p, i));
            }
        }
        return c;
    }

    private static boolean hasRoom(int[] ops, int[] cycles, int i, int c) {
        int together = 0;
        for (int p = 0; p < ops.length; p++) {
            if (cycles[p] == c) {
                boolean memory = ops[i] >= BlockSchedOpt.OP_LOAD && ops[p] >= BlockSchedOpt.OP_LOAD;
                boolean multiplier = ops[i] == BlockSchedOpt.OP_MUL && ops[p] == BlockSchedOpt.OP_MUL;
                together += memory || multiplier ? 2 : 1;
            }
        }
        return together < 2;
    }

    private static void hardBlocks(Due due) {
        for (int[] hard : HARD) {
            int[] fields = java.util.Arrays.copyOfRange(hard, 2, hard.length);
            compare(due, hard[0], hard[1], fields);
        }
    }

    private static void mixedBlocks(Due due) {
        Numbers numbers = new Numbers(6);
        for (int round = 0; round < 6000; round++) {
            int n = numbers.in(1, 10);
            int ops = numbers.in(0, 2);
            int registers = numbers.in(1, 7);
            int[] fields = new int[4 * n];
            for (int k = 0; k < fields.length; k += 4) {
                // All opcodes, or those of the two scarce units, or those of one of them.
                fields[k] = ops == 0 ? numbers.in(1, 6) : ops == 1 ? numbers.in(4, 6) : numbers.in(3, 4);
                for (int f = 1; f <= 3; f++) {
                    fields[k + f] = numbers.in(0, registers);
                }
            }
            compare(due, numbers.in(1, 4), numbers.in(1, 4), fields);
        }
    }

    private static void compare(Due due, int mulLatency, int loadLatency, int[] fields) {
        int n = fields.length / 4;
        BlockSchedOpt x = Look.block(mulLatency, loadLatency, fields);
        PlainModel model = new PlainModel(mulLatency, loadLatency);
        for (int k = 0; k < fields.length; k += 4) {
            model.addInstr(fields[k], fields[k + 1], fields[k + 2], fields[k + 3]);
        }
        String what = mulLatency + ", " + loadLatency + ": " + java.util.Arrays.toString(fields);
        int length = model.schedule();
        int[] cycles = java.util.stream.IntStream.range(0, n).map(model::cycleOf).toArray();
        expect(due, what, x, length, cycles);
        due.is("1..40 of " + what, length >= 1 && length <= 40, true);
        due.is("at least the critical path of " + what, x.criticalPath() <= length, true);
        for (int t = 0; t < 64; t++) {
            due.is("bundleAt(" + t + ", 2) of " + what, x.bundleAt(t, 2), -1);
        }
    }
}
