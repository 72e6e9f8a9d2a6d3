/** Promise 1: construction and the fresh object. */
public final class ConstructionTest {
    private static final int[] GIVEN = {
        Integer.MIN_VALUE, -4, -1, 0, 1, 2, 3, 4, 5, 100, Integer.MAX_VALUE};
    private static final int[] KEPT = {1, 1, 1, 1, 1, 2, 3, 4, 4, 4, 4};

    public static void main(String[] args) {
        Due due = new Due();
        latenciesAreClamped(due);
        latenciesStay(due);
        freshObjectHasNoInstructions(due);
        freshObjectHasInitialValuesZero(due);
        freshObjectHasResultValuesZero(due);
        objectsAreApart(due);
        due.end();
    }

    // 'BlockSchedOpt(int mulLatency, int loadLatency) accepts any ints. mulLatency and loadLatency are each
    // clamped into 1..4: a value below 1 becomes 1, a value above 4 becomes 4, a value in 1..4 is kept'
    private static void latenciesAreClamped(Due due) {
        for (int m = 0; m < GIVEN.length; m++) {
            for (int l = 0; l < GIVEN.length; l++) {
                String made = "new(" + GIVEN[m] + ", " + GIVEN[l] + ") ";
                BlockSchedOpt x = Look.block(GIVEN[m], GIVEN[l], 4, 0, 1, 2);
                due.is(made + "criticalPath() of a MUL", x.criticalPath(), KEPT[m]);
                due.is(made + "schedule() of a MUL", x.schedule(), KEPT[m]);
                x.clear();
                Look.add(x, 5, 0, 1, 2);
                due.is(made + "criticalPath() of a LOAD", x.criticalPath(), KEPT[l]);
                due.is(made + "schedule() of a LOAD", x.schedule(), KEPT[l]);
            }
        }
    }

    // 'They never change afterwards; no method alters them.'
    private static void latenciesStay(Due due) {
        for (int m = 0; m < GIVEN.length; m++) {
            int l = GIVEN.length - 1 - m;
            BlockSchedOpt x = new BlockSchedOpt(GIVEN[m], GIVEN[l]);
            callAll(x);
            Look.add(x, 4, 0, 1, 2, 5, 1, 0, 0, 6, 1, 1, 0);
            callAll(x);
            x.clear();
            due.same("latencies after all methods", Look.latencies(x), new int[] {KEPT[m], KEPT[l]});
            x.clear();
            Look.add(x, 4, 0, 1, 2, 5, 1, 0, 0, 2, 2, 1, 1);
            due.is("edgeDelay from the MUL after all methods", x.edgeDelay(0, 1), KEPT[m]);
            due.is("edgeDelay from the LOAD after all methods", x.edgeDelay(1, 2), KEPT[l]);
        }
    }

    private static void callAll(BlockSchedOpt x) {
        x.addInstr(0, 9, 9, 9);
        x.setInit(0, 4);
        x.setInit(16, 4);
        x.schedule();
        x.run();
        x.setCycle(0, 9);
        x.setCycle(0, 64);
        x.run();
        x.check();
        x.criticalPath();
        x.edgeKinds(0, 1);
        x.edgeDelay(0, 1);
        x.bundleAt(0, 0);
        x.seqValue(0);
        x.machValue(0);
        x.cycleOf(0);
    }

    // 'A fresh object has no instructions (n = 0)'
    private static void freshObjectHasNoInstructions(Due due) {
        for (int given : GIVEN) {
            BlockSchedOpt x = new BlockSchedOpt(given, given);
            due.is("check() when fresh", x.check(), BlockSchedOpt.CHK_EMPTY);
            due.is("criticalPath() when fresh", x.criticalPath(), 0);
            due.is("schedule() when fresh", x.schedule(), 0);
            due.is("run() when fresh", x.run(), -1);
            due.is("setCycle(0, 0) when fresh", x.setCycle(0, 0), false);
            due.is("cycleOf(0) when fresh", x.cycleOf(0), -1);
            due.is("bundleAt(0, 0) when fresh", x.bundleAt(0, 0), -1);
            due.is("edgeKinds(0, 1) when fresh", x.edgeKinds(0, 1), 0);
            due.is("first addInstr", x.addInstr(1, 0, 0, 0), 0);
        }
    }

    // 'all 16 initial values 0'
    private static void freshObjectHasInitialValuesZero(Due due) {
        for (int given : GIVEN) {
            BlockSchedOpt x = new BlockSchedOpt(given, given);
            due.same("initial values when fresh", Look.initial(x), new int[16]);
        }
    }

    // 'and all 32 result values (16 sequential, 16 machine) 0'
    private static void freshObjectHasResultValuesZero(Due due) {
        for (int given : GIVEN) {
            BlockSchedOpt x = new BlockSchedOpt(given, given);
            due.same("sequential values when fresh", Look.sequential(x), new int[16]);
            due.same("machine values when fresh", Look.machine(x), new int[16]);
        }
    }

    private static void objectsAreApart(Due due) {
        BlockSchedOpt x = Look.block(1, 1, 1, 0, 5, 0);
        BlockSchedOpt y = new BlockSchedOpt(4, 4);
        x.setInit(3, 9);
        x.schedule();
        x.run();
        due.is("check() of the other object", y.check(), BlockSchedOpt.CHK_EMPTY);
        due.same("values of the other object", Look.sequential(y), new int[16]);
    }
}
