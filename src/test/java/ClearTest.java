/** Promise 3: clearing the block. */
public final class ClearTest {
    public static void main(String[] args) {
        Due due = new Due();
        clearingAnEmptyBlock(due);
        clearingEmptiesTheBlock(due);
        valuesAndLatenciesStay(due);
        due.end();
    }

    private static void clearingAnEmptyBlock(Due due) {
        BlockSchedOpt x = new BlockSchedOpt(2, 2);
        int[] before = Look.everything(x);
        x.clear();
        x.clear();
        due.same("after clear() of a fresh object", Look.everything(x), before);
    }

    private static void clearingEmptiesTheBlock(Due due) {
        BlockSchedOpt x = new BlockSchedOpt(2, 2);
        for (int round = 0; round < 3; round++) {
            for (int i = 0; i < 10; i++) {
                due.is("addInstr in round " + round, x.addInstr(1, 0, i, 0), i);
            }
            x.schedule();
            x.clear();
            due.is("check()", x.check(), BlockSchedOpt.CHK_EMPTY);
            due.is("schedule()", x.schedule(), 0);
            due.is("run()", x.run(), -1);
            due.is("criticalPath()", x.criticalPath(), 0);
            due.is("cycleOf(0)", x.cycleOf(0), -1);
            due.is("edgeKinds(0, 1)", x.edgeKinds(0, 1), 0);
            due.is("edgeDelay(0, 1)", x.edgeDelay(0, 1), -1);
            due.is("bundleAt(0, 0)", x.bundleAt(0, 0), -1);
            due.is("setCycle(0, 0)", x.setCycle(0, 0), false);
        }
        Look.add(x, 1, 1, 1, 0, 1, 2, 2, 0);
        due.same("cycles of a block after clear()", Look.cycles(x, 3), new int[] {-1, -1, -1});
    }

    private static void valuesAndLatenciesStay(Due due) {
        BlockSchedOpt x = Look.block(3, 4, 1, 0, 5, 0, 2, 1, 0, 6);
        x.setInit(6, 10);
        x.setInit(15, -1);
        Look.setCycles(x, 0, 0);
        x.run();
        int[] sequential = Look.sequential(x);
        int[] machine = Look.machine(x);
        x.clear();
        due.same("sequential values after clear()", Look.sequential(x), sequential);
        due.same("machine values after clear()", Look.machine(x), machine);
        due.is("a sequential value", x.seqValue(1), 15);
        due.is("a machine value", x.machValue(1), 10);
        Look.add(x, 4, 0, 0, 0, 5, 1, 1, 0);
        x.schedule();
        x.run();
        due.is("initial r6 after clear()", x.seqValue(6), 10);
        due.is("initial m7 after clear()", x.machValue(15), -1);
        x.clear();
        Look.add(x, 4, 0, 0, 0);
        due.is("mulLatency after clear()", x.criticalPath(), 3);
        x.clear();
        Look.add(x, 5, 0, 0, 0);
        due.is("loadLatency after clear()", x.criticalPath(), 4);
    }
}
