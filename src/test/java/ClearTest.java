/** Promise 3: clearing the block. */
public final class ClearTest {
    public static void main(String[] args) {
        Due due = new Due();
        clearingAnEmptyBlock(due);
        clearingSucceedsInEveryState(due);
        cyclesAreGone(due);
        resultValuesStay(due);
        initialValuesStay(due);
        latenciesStay(due);
        numbersStartFromZeroAgain(due);
        due.end();
    }

    // 'It succeeds in every state, including an empty block.'
    private static void clearingAnEmptyBlock(Due due) {
        for (States.State state : States.ALL) {
            if (state.n() == 0) {
                States.alike(due, "after clear(), " + state.name(), States.after(state, x -> x.clear()), state.made());
            }
        }
    }

    // 'clear() removes all instructions: n becomes 0'
    private static void clearingSucceedsInEveryState(Due due) {
        for (States.State state : States.ALL) {
            BlockSchedOpt x = state.make();
            x.clear();
            String after = " after clear(), " + state.name();
            due.is("check()" + after, x.check(), BlockSchedOpt.CHK_EMPTY);
            due.is("schedule()" + after, x.schedule(), 0);
            due.is("run()" + after, x.run(), -1);
            due.is("criticalPath()" + after, x.criticalPath(), 0);
            for (int i = 0; i < 10; i++) {
                due.is("cycleOf(" + i + ")" + after, x.cycleOf(i), -1);
                due.is("setCycle(" + i + ", 0)" + after, x.setCycle(i, 0), false);
                for (int j = 0; j < 10; j++) {
                    due.is("edgeKinds(" + i + ", " + j + ")" + after, x.edgeKinds(i, j), 0);
                    due.is("edgeDelay(" + i + ", " + j + ")" + after, x.edgeDelay(i, j), -1);
                }
            }
        }
    }

    // 'and with them all cycles are gone'
    private static void cyclesAreGone(Due due) {
        for (States.State state : States.ALL) {
            BlockSchedOpt x = state.make();
            x.clear();
            for (int cycle = -1; cycle <= 64; cycle++) {
                due.is("bundleAt(" + cycle + ", 0) after clear(), " + state.name(), x.bundleAt(cycle, 0), -1);
            }
            for (int i = 0; i < 10; i++) {
                x.addInstr(1, 0, 0, 0);
                due.is("cycle of the new number " + i + ", " + state.name(), x.cycleOf(i), -1);
                due.is("check() of the new block, " + state.name(), x.check(), BlockSchedOpt.CHK_UNSET);
            }
        }
    }

    // 'Initial values and result values are unchanged': the result values
    private static void resultValuesStay(Due due) {
        for (States.State state : States.ALL) {
            BlockSchedOpt x = state.make();
            BlockSchedOpt without = state.make();
            x.clear();
            due.same("sequential after clear(), " + state.name(), Look.sequential(x), Look.sequential(without));
            due.same("machine after clear(), " + state.name(), Look.machine(x), Look.machine(without));
        }
        BlockSchedOpt x = Look.block(3, 4, 1, 0, 5, 0, 2, 1, 0, 6);
        x.setInit(6, 10);
        Look.setCycles(x, 0, 0);
        x.run();
        x.clear();
        due.is("a sequential value after clear()", x.seqValue(1), 15);
        due.is("a machine value after clear()", x.machValue(1), 10);
    }

    // 'Initial values and result values are unchanged': the initial values
    private static void initialValuesStay(Due due) {
        BlockSchedOpt x = new BlockSchedOpt(3, 4);
        int[] want = new int[16];
        for (int loc = 0; loc < 16; loc++) {
            want[loc] = 7 - loc;
            x.setInit(loc, want[loc]);
        }
        Look.add(x, 1, 0, 5, 0, 2, 1, 0, 6);
        x.clear();
        due.same("initial values after clear()", Look.initial(x), want);
    }

    // 'the latencies are unchanged'
    private static void latenciesStay(Due due) {
        for (int latency = 1; latency <= 4; latency++) {
            BlockSchedOpt x = Look.block(latency, 5 - latency, 1, 0, 5, 0);
            x.clear();
            x.clear();
            due.same("latencies after clear()", Look.latencies(x), new int[] {latency, 5 - latency});
        }
    }

    // 'Afterwards instructions may be added again starting from number 0.'
    private static void numbersStartFromZeroAgain(Due due) {
        for (States.State state : States.ALL) {
            BlockSchedOpt x = state.make();
            for (int round = 0; round < 3; round++) {
                x.clear();
                for (int i = 0; i < 10; i++) {
                    due.is("addInstr in round " + round + ", " + state.name(), x.addInstr(1, i % 8, i, 0), i);
                }
                due.is("addInstr when full again", x.addInstr(1, 0, 0, 0), -1);
            }
            due.is("schedule() of the new block", x.schedule(), 5);
            due.is("run() of the new block", x.run(), 0);
            due.is("r0 of the new block", x.seqValue(0), 8);
            due.is("r7 of the new block", x.seqValue(7), 7);
        }
    }
}
