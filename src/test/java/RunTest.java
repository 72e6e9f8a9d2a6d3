/** Promise 8: running the block both ways. */
public final class RunTest {
    private static final int MIN = Integer.MIN_VALUE;
    private static final int MAX = Integer.MAX_VALUE;

    public static void main(String[] args) {
        Due due = new Due();
        refusals(due);
        refusedInEveryStateWithUnset(due);
        anyOneUnsetRefuses(due);
        everyOpcode(due);
        arithmeticWraps(due);
        addressesWrap(due);
        readsAtIssueWritesWhenDue(due);
        writesDueTogether(due);
        lastCyclesAreRunToTheirEnd(due);
        anyNumberInABundle(due);
        differencesAreCounted(due);
        manyLocationsDiffer(due);
        runsStartAfresh(due);
        nothingElseChanges(due);
        due.end();
    }

    private static void refusals(Due due) {
        BlockSchedOpt x = new BlockSchedOpt(2, 2);
        due.is("run() of an empty block", x.run(), -1);
        Look.add(x, 1, 0, 5, 0, 1, 1, 6, 0);
        due.is("run() with all unset", x.run(), -1);
        Look.setCycles(x, 0, 0);
        due.is("run() with all set", x.run(), 0);
        x.setInit(5, 9);
        x.setCycle(1, -1);
        int[] before = Look.everything(x);
        due.is("run() with the last unset", x.run(), -1);
        due.same("after a refused run()", Look.everything(x), before);
        Look.setCycles(x, -1, 0);
        before = Look.everything(x);
        due.is("run() with the first unset", x.run(), -1);
        due.same("after another refused run()", Look.everything(x), before);
    }

    // 'is refused (answers -1, changes nothing) if n == 0 or some cycle is -1'
    private static void refusedInEveryStateWithUnset(Due due) {
        for (States.State state : States.ALL) {
            BlockSchedOpt x = state.make();
            boolean unset = java.util.Arrays.stream(Look.cycles(x, state.n())).anyMatch(c -> c == -1);
            if (state.n() == 0 || unset) {
                due.is("run(), " + state.name(), x.run(), -1);
                due.is("run() again, " + state.name(), x.run(), -1);
                States.alike(due, "after a refused run(), " + state.name(),
                        States.after(state, y -> y.run()), state.made());
            } else {
                int differing = x.run();
                due.is("run() in 0..16, " + state.name(), differing >= 0 && differing <= 16, true);
            }
        }
    }

    private static void anyOneUnsetRefuses(Due due) {
        BlockSchedOpt x = new BlockSchedOpt(1, 1);
        for (int i = 0; i < 10; i++) {
            x.addInstr(1, i % 8, 10 + i, 0);
        }
        for (int i = 0; i < 10; i++) {
            x.schedule();
            x.setCycle(i, -1);
            due.is("run() with " + i + " alone unset", x.run(), -1);
        }
        due.same("values after refusals alone", Look.machine(x), new int[16]);
        Look.setCycles(x, 0, 0, 0, 0, 0, 0, 0, 0, 1, 1);
        due.is("run() with none unset", x.run(), 0);
        due.is("r0", x.machValue(0), 18);
        due.is("r7", x.machValue(7), 17);
    }

    private static void expectBoth(Due due, String what, BlockSchedOpt x, int loc, int want) {
        due.is("seqValue of " + what, x.seqValue(loc), want);
        due.is("machValue of " + what, x.machValue(loc), want);
    }

    private static void everyOpcode(Due due) {
        BlockSchedOpt x = Look.block(2, 3,
                1, 0, -5, 99, 2, 1, 6, 7, 3, 2, 6, 7, 4, 3, 6, 7, 5, 4, 7, 1, 6, 6, 7, -1);
        x.setInit(6, 30);
        x.setInit(7, 4);
        x.setInit(13, 555);
        x.schedule();
        int[] cycles = Look.cycles(x, 6);
        due.is("run()", x.run(), 0);
        expectBoth(due, "LDI", x, 0, -5);
        expectBoth(due, "ADD", x, 1, 34);
        expectBoth(due, "SUB", x, 2, 26);
        expectBoth(due, "MUL", x, 3, 120);
        expectBoth(due, "LOAD", x, 4, 555);
        expectBoth(due, "STORE", x, 11, 30);
        expectBoth(due, "a register not written", x, 7, 4);
        expectBoth(due, "a word not written", x, 13, 555);
        due.same("cycles after run()", Look.cycles(x, 6), cycles);
    }

    // 'All arithmetic, including addresses, wraps as Java int arithmetic does.', 'All arithmetic wraps as 32-bit
    // two's complement, exactly as Java int arithmetic does'
    private static void arithmeticWraps(Due due) {
        int[] values = {MIN, MIN + 1, -65536, -2, -1, 0, 1, 2, 46341, 65536, MAX - 1, MAX};
        for (int p : values) {
            for (int q : values) {
                BlockSchedOpt x = Look.block(1, 1, 2, 0, 6, 7, 3, 1, 6, 7, 4, 2, 6, 7);
                x.setInit(6, p);
                x.setInit(7, q);
                x.schedule();
                due.is("run() of " + p + " and " + q, x.run(), 0);
                // The low 32 bits of the exact result.
                expectBoth(due, p + " + " + q, x, 0, (int) ((long) p + q));
                expectBoth(due, p + " - " + q, x, 1, (int) ((long) p - q));
                expectBoth(due, p + " * " + q, x, 2, (int) ((long) p * q));
            }
        }
        BlockSchedOpt x = Look.block(1, 1, 2, 0, 6, 6, 3, 1, 7, 6, 4, 2, 6, 6, 4, 3, 6, 7);
        x.setInit(6, MAX);
        x.setInit(7, MIN);
        x.schedule();
        x.run();
        expectBoth(due, "MAX + MAX", x, 0, -2);
        expectBoth(due, "MIN - MAX", x, 1, 1);
        expectBoth(due, "MAX * MAX", x, 2, 1);
        expectBoth(due, "MAX * MIN", x, 3, MIN);
    }

    // 'an address is always 0..7, also when r[a] + b is negative or wraps around'
    private static void addressesWrap(Due due) {
        int[][] bases = {{0, 0, 0}, {0, 7, 7}, {0, 8, 0}, {0, -1, 7}, {-100, 3, 7}, {MAX, 1, 0},
            {MIN, -1, 7}, {MAX, MAX, 6}, {MIN, MIN, 0}, {5, 6, 3}};
        for (int[] base : bases) {
            BlockSchedOpt x = Look.block(1, 2, 5, 0, 1, base[1], 6, 2, 1, base[1]);
            x.setInit(1, base[0]);
            x.setInit(2, -77);
            for (int k = 0; k < 8; k++) {
                x.setInit(8 + k, 10 + k);
            }
            x.schedule();
            due.is("run() at " + base[0] + " + " + base[1], x.run(), 0);
            expectBoth(due, "LOAD at " + base[0] + " + " + base[1], x, 0, 10 + base[2]);
            expectBoth(due, "STORE at " + base[0] + " + " + base[1], x, 8 + base[2], -77);
        }
    }

    private static void readsAtIssueWritesWhenDue(Due due) {
        // A MUL of latency 3 issued at 0 can be read at 3, not at 2.
        for (int c = 0; c <= 4; c++) {
            BlockSchedOpt x = Look.block(3, 1, 4, 0, 1, 1, 2, 2, 0, 0);
            x.setInit(0, 1);
            x.setInit(1, 5);
            Look.setCycles(x, 0, c);
            due.is("run() with the reader at " + c, x.run(), c < 3 ? 1 : 0);
            due.is("machValue with the reader at " + c, x.machValue(2), c < 3 ? 2 : 50);
            due.is("seqValue with the reader at " + c, x.seqValue(2), 50);
        }
        // A LOAD reads its word and its address when issued, though it writes later.
        BlockSchedOpt load = Look.block(1, 4, 5, 0, 1, 0, 6, 2, 1, 0, 1, 1, 3, 0);
        load.setInit(2, 9);
        load.setInit(8, 4);
        load.setInit(11, 6);
        Look.setCycles(load, 0, 0, 0);
        due.is("run() of a LOAD overtaken", load.run(), 0);
        due.is("what the LOAD read", load.machValue(0), 4);
        Look.setCycles(load, 1, 0, 0);
        due.is("run() of a LOAD issued too late", load.run(), 1);
        due.is("what the late LOAD read", load.machValue(0), 6);
        // A STORE keeps the value and address of its issue.
        BlockSchedOpt store = Look.block(1, 1, 1, 0, 2, 0, 6, 0, 0, 0);
        Look.setCycles(store, 0, 0);
        due.is("run() of a STORE beside its source", store.run(), 1);
        due.is("m0", store.machValue(8), 0);
        due.is("m2", store.machValue(10), 0);
        due.is("m2 in order", store.seqValue(10), 2);
    }

    private static void writesDueTogether(Due due) {
        BlockSchedOpt x = Look.block(3, 2, 4, 0, 1, 1, 5, 0, 2, 0, 1, 0, 7, 0);
        x.setInit(1, 5);
        x.setInit(8, 6);
        Look.setCycles(x, 0, 1, 2);
        x.run();
        due.is("the highest index stays", x.machValue(0), 7);
        Look.setCycles(x, 0, 1, 1);
        x.run();
        due.is("the higher of two stays", x.machValue(0), 6);
        Look.setCycles(x, 1, 1, 1);
        due.is("run() with the first write last", x.run(), 1);
        due.is("the last write stays", x.machValue(0), 25);
        BlockSchedOpt stores = Look.block(1, 1, 6, 1, 0, 0, 6, 2, 0, 0, 6, 3, 0, 1);
        stores.setInit(1, 11);
        stores.setInit(2, 22);
        stores.setInit(3, 33);
        Look.setCycles(stores, 63, 63, 63);
        due.is("run() of three STOREs in one cycle", stores.run(), 0);
        due.is("the higher STORE stays", stores.machValue(8), 22);
    }

    // 'The final state is the state after cycle T-1': a write that is due after cycle 63 too.
    private static void lastCyclesAreRunToTheirEnd(Due due) {
        for (int latency = 1; latency <= 4; latency++) {
            BlockSchedOpt x = Look.block(latency, latency, 4, 0, 1, 1, 5, 2, 3, 7);
            x.setInit(1, 5);
            x.setInit(15, 44);
            Look.setCycles(x, 63, 63);
            due.is("run() at 63 with latency " + latency, x.run(), 0);
            expectBoth(due, "MUL at 63", x, 0, 25);
            expectBoth(due, "LOAD at 63", x, 2, 44);
            due.is("check() at 63 with latency " + latency, x.check(), 63 + latency);
        }
        BlockSchedOpt store = Look.block(4, 4, 6, 1, 0, 7);
        store.setInit(1, 5);
        for (int c : new int[] {0, 63}) {
            store.setCycle(0, c);
            due.is("run() of a STORE at " + c, store.run(), 0);
            expectBoth(due, "STORE", store, 15, 5);
        }
    }

    // 'The machine runs any set of cycles, valid or not, however many instructions per bundle.'
    private static void anyNumberInABundle(Due due) {
        for (int c : new int[] {0, 31, 63}) {
            BlockSchedOpt x = new BlockSchedOpt(2, 3);
            // Each register takes its neighbour's value less r7's, all from before the cycle.
            for (int r = 0; r < 8; r++) {
                x.setInit(r, 100 + r);
                x.addInstr(3, r, (r + 1) % 8, 7);
            }
            x.addInstr(6, 1, 7, 0);
            x.addInstr(6, 2, 7, 0);
            for (int i = 0; i < 10; i++) {
                x.setCycle(i, c);
            }
            x.run();
            due.same("ten at " + c, Look.machine(x),
                    new int[] {-6, -5, -4, -3, -2, -1, 0, -7, 0, 0, 0, 102, 0, 0, 0, 0});
        }
    }

    // 'answers how many of the 16 locations differ between the two (0..16)', 'On a schedule that is not valid
    // the answer is simply the count of differing locations, which lies within 0..16 and may also be 0; on a
    // valid schedule it is 0 (Promise 7).'
    private static void differencesAreCounted(Due due) {
        BlockSchedOpt x = Look.block(1, 1, 1, 0, 1, 0, 2, 1, 0, 0, 2, 2, 0, 0, 2, 3, 0, 0, 2, 4, 0, 0,
                2, 5, 0, 0, 2, 6, 0, 0, 2, 7, 0, 0, 6, 0, 0, 0);
        Look.setCycles(x, 9, 0, 0, 0, 0, 0, 0, 0, 0);
        due.is("run() with all readers early", x.run(), 8);
        due.is("m1 in order", x.seqValue(9), 1);
        due.is("m1 on the machine", x.machValue(9), 0);
        Look.setCycles(x, 0, 0, 0, 0, 0, 1, 1, 1, 1);
        due.is("run() with half of them early", x.run(), 4);
        x.setInit(0, 1);
        Look.setCycles(x, 9, 0, 0, 0, 0, 0, 0, 0, 0);
        due.is("run() of a schedule not valid that happens to agree", x.run(), 0);
        due.is("check() of it", x.check(), BlockSchedOpt.CHK_DEP);
        x.setInit(0, 0);
        x.schedule();
        due.is("run() of a valid schedule", x.run(), 0);
    }

    // Ten instructions, each of which changes one or two locations, can make fourteen differ.
    private static void manyLocationsDiffer(Due due) {
        BlockSchedOpt x = new BlockSchedOpt(1, 1);
        for (int r = 0; r < 6; r++) {
            x.addInstr(2, r, r, r == 0 ? 5 : r - 1);
        }
        for (int k = 0; k < 4; k++) {
            x.addInstr(6, 7, 0, k);
        }
        for (int r = 0; r < 8; r++) {
            x.setInit(r, 4);
        }
        for (int i = 0; i < 10; i++) {
            x.setCycle(i, 9 - i);
        }
        due.is("run() of the block backwards", x.run(), 14);
        due.same("in order", Look.sequential(x), new int[] {8, 12, 16, 20, 24, 28, 4, 4, 4, 4, 4, 4, 0, 0, 0, 0});
        due.same("backwards", Look.machine(x), new int[] {12, 8, 8, 8, 8, 8, 4, 4, 0, 0, 0, 0, 4, 4, 4, 4});
        x.schedule();
        due.is("run() of the block as scheduled", x.run(), 0);
    }

    private static void runsStartAfresh(Due due) {
        BlockSchedOpt x = Look.block(2, 2, 2, 0, 0, 1, 6, 0, 2, 0);
        x.setInit(1, 3);
        x.schedule();
        for (int round = 0; round < 3; round++) {
            x.run();
            expectBoth(due, "r0 in round " + round, x, 0, 3);
        }
        x.clear();
        Look.add(x, 1, 5, 5, 0);
        x.setCycle(0, 63);
        x.run();
        expectBoth(due, "r0 no longer written", x, 0, 0);
        expectBoth(due, "m0 no longer written", x, 8, 0);
        expectBoth(due, "r5", x, 5, 5);
    }

    // 'Instructions, cycles, initial values and latencies are unchanged.'
    private static void nothingElseChanges(Due due) {
        for (States.State state : States.ALL) {
            BlockSchedOpt x = state.make();
            BlockSchedOpt without = state.make();
            int answer = x.run();
            due.same("cycles after run(), " + state.name(),
                    Look.cycles(x, state.n()), Look.cycles(without, state.n()));
            due.is("check() after run(), " + state.name(), x.check(), without.check());
            due.is("run() again, " + state.name(), x.run(), answer);
            due.is("schedule() after run(), " + state.name(), x.schedule(), without.schedule());
            due.is("run() as scheduled, " + state.name(), x.run(), without.run());
            due.same("values as scheduled, " + state.name(), Look.machine(x), Look.machine(without));
            due.same("initial values after run(), " + state.name(), Look.initial(x), Look.initial(without));
            due.same("latencies after run(), " + state.name(), Look.latencies(x), Look.latencies(without));
        }
    }
}
