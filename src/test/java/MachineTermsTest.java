/** 'Terms used below': the pipelined machine and sequential execution. */
public final class MachineTermsTest {
    public static void main(String[] args) {
        Due due = new Due();
        nothingStalls(due);
        startsFromTheInitialValues(due);
        readsTheStateAtTheStartOfTheCycle(due);
        addressIsTakenAtIssue(due);
        wordIsReadAtIssue(due);
        storedValueIsTakenAtIssue(due);
        writesAtTheEndOfTheDueCycle(due);
        aLaterWriteStays(due);
        writesDueTogetherGoByIndex(due);
        runsToTheLastWrite(due);
        unwrittenLocationsKeepTheirValues(due);
        inOrderWhateverTheCycles(due);
        eachCompletelyBeforeTheNext(due);
        due.end();
    }

    private static BlockSchedOpt with(int[] initial, int mulLatency, int loadLatency, int... fields) {
        BlockSchedOpt x = Look.block(mulLatency, loadLatency, fields);
        for (int loc = 0; loc < initial.length; loc++) {
            x.setInit(loc, initial[loc]);
        }
        return x;
    }

    private static void machine(Due due, String what, BlockSchedOpt x, int[] cycles, int loc, int want) {
        Look.setCycles(x, cycles);
        x.run();
        due.is(what, x.machValue(loc), want);
    }

    // 'The pipelined machine (no interlocks, never stalls).'
    private static void nothingStalls(Due due) {
        // r1 = r0 * r0; r2 = r1 + r1; r3 = r2 + r2; each reads too early, and nothing waits.
        int[] initial = {3, 10, 20, 30};
        BlockSchedOpt x = with(initial, 4, 1, 4, 1, 0, 0, 2, 2, 1, 1, 2, 3, 2, 2);
        machine(due, "r3 with all in one cycle", x, new int[] {0, 0, 0}, 3, 40);
        due.is("r2 with all in one cycle", x.machValue(2), 20);
        due.is("r1 with all in one cycle", x.machValue(1), 9);
        machine(due, "r3 a cycle after r2", x, new int[] {0, 0, 1}, 3, 40);
        machine(due, "r3 after a reader of the old r1", x, new int[] {0, 3, 4}, 3, 40);
        machine(due, "r3 after a reader of the new r1", x, new int[] {0, 4, 5}, 3, 36);
        machine(due, "r3 before r2", x, new int[] {0, 4, 4}, 3, 40);
    }

    // 'Start from the initial values.'
    private static void startsFromTheInitialValues(Due due) {
        BlockSchedOpt x = with(new int[] {3, 10}, 1, 1, 2, 0, 0, 1);
        for (int round = 0; round < 3; round++) {
            machine(due, "r0 + r1, run " + round, x, new int[] {round}, 0, 13);
        }
        x.setInit(0, -3);
        machine(due, "r0 + r1 from another start", x, new int[] {0}, 0, 7);
    }

    // 'all from the state as it stands at the start of cycle t'
    private static void readsTheStateAtTheStartOfTheCycle(Due due) {
        // Two that exchange r0 and r1, whichever has the lower index.
        BlockSchedOpt x = with(new int[] {3, 10}, 1, 1, 2, 0, 1, 7, 2, 1, 0, 7);
        machine(due, "r0 of an exchange", x, new int[] {5, 5}, 0, 10);
        due.is("r1 of an exchange", x.machValue(1), 3);
        due.same("both in order", new int[] {x.seqValue(0), x.seqValue(1)}, new int[] {10, 10});
        machine(due, "r1 of one after the other", x, new int[] {5, 6}, 1, 10);
        machine(due, "r0 of one before the other", x, new int[] {6, 5}, 0, 3);
    }

    // 'computes its address (LOAD, STORE)'
    private static void addressIsTakenAtIssue(Due due) {
        int[] initial = {2, 0, 0, 77, 0, 0, 0, 0, 80, 81, 82, 83, 84, 85, 86, 87};
        // The base r0 changes from 2 to 5 in cycle 1, before the LOAD of latency 4 writes.
        BlockSchedOpt load = with(initial, 1, 4, 5, 1, 0, 0, 1, 0, 5, 0);
        machine(due, "LOAD issued before the base changes", load, new int[] {0, 1}, 1, 82);
        machine(due, "LOAD issued as the base changes", load, new int[] {1, 1}, 1, 82);
        machine(due, "LOAD issued after the base changed", load, new int[] {2, 1}, 1, 85);
        BlockSchedOpt store = with(initial, 1, 4, 6, 3, 0, 0, 1, 0, 5, 0);
        machine(due, "STORE issued as the base changes", store, new int[] {1, 1}, 10, 77);
        due.is("the word it would have had later", store.machValue(13), 85);
        machine(due, "STORE issued after the base changed", store, new int[] {2, 1}, 13, 77);
        due.is("the word it would have had before", store.machValue(10), 82);
    }

    // 'reads its memory word (LOAD)'
    private static void wordIsReadAtIssue(Due due) {
        int[] initial = {0, 0, 0, 77, 0, 0, 0, 0, 80};
        BlockSchedOpt x = with(initial, 1, 4, 5, 1, 0, 0, 6, 3, 0, 0);
        machine(due, "LOAD with a STORE before its write", x, new int[] {0, 2}, 1, 80);
        machine(due, "LOAD with a STORE in its cycle", x, new int[] {2, 2}, 1, 80);
        machine(due, "LOAD with a STORE a cycle earlier", x, new int[] {3, 2}, 1, 77);
    }

    // 'and computes its value'
    private static void storedValueIsTakenAtIssue(Due due) {
        BlockSchedOpt store = with(new int[] {0, 0, 0, 77}, 1, 1, 6, 3, 0, 0, 1, 3, 9, 0);
        machine(due, "STORE as its source changes", store, new int[] {4, 4}, 8, 77);
        machine(due, "STORE after its source changed", store, new int[] {5, 4}, 8, 9);
        int[] want = {0, 0, 10, 4, 21};
        for (int op = BlockSchedOpt.OP_ADD; op <= BlockSchedOpt.OP_MUL; op++) {
            // Both sources change while a MUL of latency 4 is on its way.
            BlockSchedOpt x = with(new int[] {0, 7, 3}, 4, 1, op, 0, 1, 2, 1, 1, 50, 0, 1, 2, 60, 0);
            machine(due, "op " + op + " of the values at its issue", x, new int[] {0, 1, 2}, 0, want[op]);
            machine(due, "op " + op + " as both change", x, new int[] {2, 2, 2}, 0, want[op]);
        }
    }

    // 'every instruction whose write is due at t (due cycle c(i) + lat(i) - 1) writes its computed value
    // to r[d] (STORE: to its memory word)'
    private static void writesAtTheEndOfTheDueCycle(Due due) {
        for (int latency = 1; latency <= 4; latency++) {
            for (int op = BlockSchedOpt.OP_MUL; op <= BlockSchedOpt.OP_LOAD; op++) {
                // A copy of r0 taken in each cycle in turn.
                BlockSchedOpt x = with(new int[] {1, 6, 0, 0, 0, 0, 0, 0, 0, 0, 0, 0, 0, 0, 36},
                        latency, latency, op, 0, 1, op == BlockSchedOpt.OP_MUL ? 1 : 0, 2, 2, 0, 7);
                for (int t = 0; t <= 20; t++) {
                    int want = t <= 9 + latency ? 1 : 36;
                    machine(due, "r0 at cycle " + t + ", op " + op, x, new int[] {10, t}, 2, want);
                }
            }
        }
        BlockSchedOpt store = with(new int[] {0, 6, 0, 0, 0, 0, 0, 0, 5}, 4, 4, 6, 1, 0, 0, 5, 2, 0, 0);
        for (int t = 0; t <= 20; t++) {
            machine(due, "m0 at cycle " + t, store, new int[] {10, t}, 2, t <= 10 ? 5 : 6);
        }
    }

    // 'then, at the end of cycle t, every instruction whose write is due at t': a write due later comes
    // later, whatever was issued first.
    private static void aLaterWriteStays(Due due) {
        BlockSchedOpt x = with(new int[] {0, 6}, 4, 1, 4, 0, 1, 1, 1, 0, 9, 0);
        for (int t = 0; t <= 6; t++) {
            // The MUL writes at the end of cycle 3.
            machine(due, "r0 with the LDI at " + t, x, new int[] {0, t}, 0, t < 3 ? 36 : 9);
        }
    }

    // 'Writes due at the same t are applied in ascending instruction index, so the higher index's value
    // stays.'
    private static void writesDueTogetherGoByIndex(Due due) {
        int[] initial = {0, 6, 5, 4, 0, 0, 0, 0, 80};
        // MUL, LOAD and LDI to r0 in every order of index, all due at the end of cycle 3.
        int[][] writes = {{4, 0, 1, 1}, {5, 0, 7, 0}, {1, 0, 9, 0}};
        int[] issued = {0, 1, 3};
        int[] value = {36, 80, 9};
        int[][] orders = {{0, 1, 2}, {0, 2, 1}, {1, 0, 2}, {1, 2, 0}, {2, 0, 1}, {2, 1, 0}};
        for (int[] order : orders) {
            BlockSchedOpt x = with(initial, 4, 3);
            for (int k : order) {
                Look.add(x, writes[k]);
            }
            int[] cycles = {issued[order[0]], issued[order[1]], issued[order[2]]};
            machine(due, "r0 with the last of index " + order[2], x, cycles, 0, value[order[2]]);
        }
        BlockSchedOpt stores = with(initial, 1, 1, 6, 1, 0, 0, 6, 2, 0, 8, 6, 3, 0, -8);
        machine(due, "m0 of three STOREs at once", stores, new int[] {7, 7, 7}, 8, 4);
        machine(due, "m0 of two STOREs at the end", stores, new int[] {7, 7, 6}, 8, 5);
        machine(due, "m0 of the first at the end", stores, new int[] {7, 6, 6}, 8, 6);
    }

    // 'let T = greatest c(i) + lat(i)', 'For each t = 0, 1, .., T-1'
    private static void runsToTheLastWrite(Due due) {
        for (int c : new int[] {0, 1, 30, 62, 63}) {
            for (int latency = 1; latency <= 4; latency++) {
                // The last write is a MUL's, which has neither the last index nor the last cycle.
                BlockSchedOpt x = with(new int[] {0, 6}, latency, 1, 1, 2, 5, 0, 4, 0, 1, 1, 1, 3, 7, 0);
                int[] cycles = {c, c, Math.min(63, c + latency - 1)};
                machine(due, "r0 of a MUL at " + c, x, cycles, 0, 36);
                due.is("r2", x.machValue(2), 5);
                due.is("r3", x.machValue(3), 7);
            }
        }
    }

    // 'locations never written keep their initial values'
    private static void unwrittenLocationsKeepTheirValues(Due due) {
        int[] initial = new int[16];
        for (int loc = 0; loc < 16; loc++) {
            initial[loc] = Integer.MIN_VALUE + 31 * loc;
        }
        for (int written = 0; written < 16; written++) {
            int[] want = initial.clone();
            BlockSchedOpt x = with(initial, 2, 2);
            if (written < 8) {
                want[written] = 5;
                Look.add(x, 1, written, 5, 0);
            } else {
                want[written] = initial[1];
                Look.add(x, 6, 1, 0, written);
            }
            x.setCycle(0, 3);
            due.is("run() that writes " + written, x.run(), 0);
            due.same("machine values when " + written + " is written", Look.machine(x), want);
            due.same("sequential values when " + written + " is written", Look.sequential(x), want);
        }
    }

    // 'From the initial values, execute instructions 0, 1, .., n-1 in order'
    private static void inOrderWhateverTheCycles(Due due) {
        int[] initial = {3, 4, 0, 0, 0, 0, 0, 0, 50, 51};
        int[] fields = {4, 2, 0, 1, 3, 0, 2, 1, 6, 0, 7, 1, 5, 1, 7, 1, 2, 3, 1, 2};
        // r2 = 12, r0 = 8, m1 = 8, r1 = 8, r3 = 20
        int[] want = {8, 8, 12, 20, 0, 0, 0, 0, 50, 8, 0, 0, 0, 0, 0, 0};
        int[][] ways = {{0, 4, 5, 6, 10}, {0, 0, 0, 0, 0}, {9, 8, 7, 6, 5}, {63, 63, 0, 0, 1}};
        for (int[] cycles : ways) {
            BlockSchedOpt x = with(initial, 4, 4, fields);
            Look.setCycles(x, cycles);
            x.run();
            due.same("in order", Look.sequential(x), want);
            x.run();
            due.same("in order once more", Look.sequential(x), want);
        }
    }

    // 'each completely before the next'
    private static void eachCompletelyBeforeTheNext(Due due) {
        // Ten doublings, each of a MUL's or a LOAD's result that has just been written.
        for (int latency = 1; latency <= 4; latency++) {
            BlockSchedOpt x = with(new int[] {1, 2}, latency, latency);
            int[] cycles = new int[10];
            for (int i = 0; i < 10; i++) {
                x.addInstr(BlockSchedOpt.OP_MUL, 0, 0, 1);
            }
            Look.setCycles(x, cycles);
            x.run();
            due.is("ten doublings in order", x.seqValue(0), 1024);
            due.is("ten doublings in one cycle", x.machValue(0), 2);
        }
        BlockSchedOpt chase = with(new int[] {0, 0, 0, 0, 0, 0, 0, 0, 3, 7, 1, 5, 2, 6, 4, 9}, 4, 4);
        for (int i = 0; i < 7; i++) {
            chase.addInstr(BlockSchedOpt.OP_LOAD, 0, 0, 0);
            chase.setCycle(i, 0);
        }
        chase.run();
        // From word 0 to 3, 5, 6, 4, 2, 1, 7.
        due.is("seven LOADs in order", chase.seqValue(0), 7);
        due.is("seven LOADs in one cycle", chase.machValue(0), 3);
    }
}
