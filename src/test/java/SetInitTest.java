/** Promise 4: setting an initial value. */
public final class SetInitTest {
    public static void main(String[] args) {
        Due due = new Due();
        everyLocationTakesAnyInt(due);
        otherLocationsAreRefused(due);
        theRestIsUnchanged(due);
        due.end();
    }

    // r0 = r0 - r1 leaves all locations as they were while r1 is 0.
    private static BlockSchedOpt harmless() {
        return Look.block(1, 1, 3, 0, 0, 1);
    }

    private static void everyLocationTakesAnyInt(Due due) {
        int[] values = {Integer.MIN_VALUE, -1, 0, 1, 77, Integer.MAX_VALUE};
        for (int loc = 2; loc <= 15; loc++) {
            BlockSchedOpt x = harmless();
            x.setCycle(0, 0);
            for (int value : values) {
                due.is("setInit(" + loc + ", " + value + ")", x.setInit(loc, value), true);
                x.run();
                int[] want = new int[16];
                want[loc] = value;
                due.same("sequential after setInit of " + loc, Look.sequential(x), want);
                due.same("machine after setInit of " + loc, Look.machine(x), want);
            }
        }
        BlockSchedOpt x = harmless();
        x.setCycle(0, 0);
        due.is("setInit(0, 9)", x.setInit(0, 9), true);
        due.is("setInit(1, 2)", x.setInit(1, 2), true);
        x.run();
        due.is("r0 - r1", x.seqValue(0), 7);
        x.run();
        due.is("r0 - r1 once more, from the same initial values", x.machValue(0), 7);
    }

    private static void otherLocationsAreRefused(Due due) {
        BlockSchedOpt x = harmless();
        x.setCycle(0, 0);
        for (int loc = 0; loc < 16; loc++) {
            x.setInit(loc, 100 + loc);
        }
        x.run();
        int[] before = Look.everything(x);
        for (int loc : new int[] {Integer.MIN_VALUE, -1, 16, 17, 24, Integer.MAX_VALUE}) {
            due.is("setInit(" + loc + ", 5)", x.setInit(loc, 5), false);
        }
        due.same("after refusals", Look.everything(x), before);
        x.run();
        due.same("run() after refusals", Look.everything(x), before);
    }

    private static void theRestIsUnchanged(Due due) {
        BlockSchedOpt x = Look.block(2, 2, 1, 0, 5, 0, 6, 0, 1, 0);
        Look.setCycles(x, 4, 63);
        x.run();
        int[] before = Look.everything(x);
        for (int loc = 0; loc < 16; loc++) {
            x.setInit(loc, -7);
        }
        due.same("all but initial values after setInit", Look.everything(x), before);
        x.clear();
        due.is("setInit with an empty block", x.setInit(2, 3), true);
        Look.add(x, 1, 0, 1, 0);
        x.schedule();
        x.run();
        due.is("r2 set while the block was empty", x.machValue(2), 3);
    }
}
