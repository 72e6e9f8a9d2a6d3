/** Promise 1: construction and the fresh object. */
public final class ConstructionTest {
    private static final int[] GIVEN = {
        Integer.MIN_VALUE, -4, -1, 0, 1, 2, 3, 4, 5, 100, Integer.MAX_VALUE};
    private static final int[] KEPT = {1, 1, 1, 1, 1, 2, 3, 4, 4, 4, 4};

    public static void main(String[] args) {
        Due due = new Due();
        latenciesAreClamped(due);
        latenciesStay(due);
        freshObjectIsEmpty(due);
        objectsAreApart(due);
        due.end();
    }

    private static void latenciesAreClamped(Due due) {
        for (int m = 0; m < GIVEN.length; m++) {
            for (int l = 0; l < GIVEN.length; l++) {
                String made = "new(" + GIVEN[m] + ", " + GIVEN[l] + ") ";
                BlockSchedOpt x = Look.block(GIVEN[m], GIVEN[l], 4, 0, 1, 2);
                due.is(made + "criticalPath() of a MUL", x.criticalPath(), KEPT[m]);
                due.is(made + "schedule() of a MUL", x.schedule(), KEPT[m]);
                x.clear();
                Look.add(x, 5, 0, 1, 2);
                due.is(made + "criticalPath() of a LOAD", x.criticalPath(), KEPT[l]);
                due.is(made + "schedule() of a LOAD", x.schedule(), KEPT[l]);
            }
        }
    }

    private static void latenciesStay(Due due) {
        BlockSchedOpt x = Look.block(3, 2, 4, 0, 1, 2, 5, 1, 0, 0, 6, 1, 1, 0);
        x.schedule();
        x.run();
        x.setInit(0, 4);
        x.setCycle(0, 9);
        x.check();
        x.clear();
        Look.add(x, 4, 0, 1, 2, 5, 1, 0, 0, 2, 2, 1, 1);
        due.is("edgeDelay from the MUL after other calls", x.edgeDelay(0, 1), 3);
        due.is("edgeDelay from the LOAD after other calls", x.edgeDelay(1, 2), 2);
    }

    private static void freshObjectIsEmpty(Due due) {
        BlockSchedOpt x = new BlockSchedOpt(2, 3);
        due.is("check() when fresh", x.check(), BlockSchedOpt.CHK_EMPTY);
        due.is("criticalPath() when fresh", x.criticalPath(), 0);
        due.is("schedule() when fresh", x.schedule(), 0);
        due.is("run() when fresh", x.run(), -1);
        due.same("sequential values when fresh", Look.sequential(x), new int[16]);
        due.same("machine values when fresh", Look.machine(x), new int[16]);
        due.is("first addInstr", x.addInstr(1, 0, 0, 0), 0);
        x.setCycle(0, 0);
        due.is("run() of r0 = 0", x.run(), 0);
        due.same("initial values, sequential", Look.sequential(x), new int[16]);
        due.same("initial values, machine", Look.machine(x), new int[16]);
    }

    private static void objectsAreApart(Due due) {
        BlockSchedOpt x = Look.block(1, 1, 1, 0, 5, 0);
        BlockSchedOpt y = new BlockSchedOpt(4, 4);
        x.setInit(3, 9);
        x.schedule();
        x.run();
        due.is("check() of the other object", y.check(), BlockSchedOpt.CHK_EMPTY);
        due.same("values of the other object", Look.sequential(y), new int[16]);
    }
}
