/** Promise 9: reading result values. */
public final class ResultValueTest {
    public static void main(String[] args) {
        Due due = new Due();
        zeroBeforeAnyRun(due);
        zeroAfterRefusedRunsAlone(due);
        zeroOutside(due);
        everyLocationIsRead(due);
        onlyRunChangesThem(due);
        aRefusedRunLeavesThem(due);
        readingChangesNothing(due);
        due.end();
    }

    // 'both answer 0 before any successful run'
    private static void zeroBeforeAnyRun(Due due) {
        BlockSchedOpt x = Look.block(1, 1, 1, 0, 5, 0);
        for (int loc = 0; loc < 16; loc++) {
            x.setInit(loc, 90 + loc);
        }
        x.schedule();
        x.check();
        due.same("sequential before run()", Look.sequential(x), new int[16]);
        due.same("machine before run()", Look.machine(x), new int[16]);
    }

    private static void zeroAfterRefusedRunsAlone(Due due) {
        BlockSchedOpt x = new BlockSchedOpt(1, 1);
        for (int loc = 0; loc < 16; loc++) {
            x.setInit(loc, 90 + loc);
        }
        x.run();
        Look.add(x, 1, 0, 5, 0, 1, 1, 6, 0);
        x.run();
        x.setCycle(0, 0);
        x.run();
        due.same("sequential after refused runs alone", Look.sequential(x), new int[16]);
        due.same("machine after refused runs alone", Look.machine(x), new int[16]);
    }

    private static BlockSchedOpt ran() {
        BlockSchedOpt x = Look.block(1, 1, 1, 0, 5, 0, 2, 1, 0, 0);
        for (int loc = 0; loc < 16; loc++) {
            x.setInit(loc, 90 + loc);
        }
        Look.setCycles(x, 1, 0);
        x.run();
        return x;
    }

    // 'and 0 if loc is outside 0..15'
    private static void zeroOutside(Due due) {
        BlockSchedOpt x = ran();
        for (int loc : new int[] {Integer.MIN_VALUE, -16, -1, 16, 17, 32, Integer.MAX_VALUE}) {
            due.is("seqValue(" + loc + ")", x.seqValue(loc), 0);
            due.is("machValue(" + loc + ")", x.machValue(loc), 0);
            States.refused(due, "seqValue(" + loc + ")", 0, block -> block.seqValue(loc));
            States.refused(due, "machValue(" + loc + ")", 0, block -> block.machValue(loc));
        }
    }

    // 'seqValue(loc) answers the sequential result value of location loc (0..15) as left by the last
    // successful run(), and machValue(loc) the machine result value'
    private static void everyLocationIsRead(Due due) {
        for (int value : new int[] {Integer.MIN_VALUE, -1, 1, Integer.MAX_VALUE}) {
            for (int loc = 0; loc < 16; loc++) {
                int written = loc == 0 ? 1 : 0;
                BlockSchedOpt x = Look.block(1, 1, 1, written, 0, 0);
                x.setCycle(0, 0);
                x.setInit(loc, value);
                x.run();
                int[] want = new int[16];
                want[loc] = value;
                due.same("sequential with " + value + " in " + loc, Look.sequential(x), want);
                due.same("machine with " + value + " in " + loc, Look.machine(x), want);
            }
        }
    }

    private static void stay(Due due, String after, BlockSchedOpt x) {
        int[] sequential = new int[16];
        for (int loc = 0; loc < 16; loc++) {
            sequential[loc] = 90 + loc;
        }
        sequential[0] = 5;
        int[] machine = sequential.clone();
        sequential[1] = 10;
        machine[1] = 180;
        due.same("sequential after " + after, Look.sequential(x), sequential);
        due.same("machine after " + after, Look.machine(x), machine);
    }

    // 'clear(), setInit, setCycle, addInstr and schedule() do not alter these values'
    private static void onlyRunChangesThem(Due due) {
        BlockSchedOpt x = ran();
        stay(due, "run()", x);
        x.setInit(0, 1);
        x.setInit(15, 1);
        stay(due, "setInit", x);
        x.setCycle(1, 9);
        stay(due, "setCycle", x);
        x.addInstr(1, 3, 8, 0);
        stay(due, "addInstr", x);
        x.run();
        stay(due, "a refused run()", x);
        x.schedule();
        stay(due, "schedule()", x);
        x.check();
        x.criticalPath();
        stay(due, "check() and criticalPath()", x);
        x.clear();
        stay(due, "clear()", x);
        x.run();
        stay(due, "run() refused for want of a block", x);
        Look.add(x, 1, 0, 4, 0);
        x.setCycle(0, 0);
        x.run();
        due.is("seqValue(0) after the next run()", x.seqValue(0), 4);
        due.is("seqValue(15) after the next run()", x.seqValue(15), 1);
        due.is("machValue(1) after the next run()", x.machValue(1), 91);
    }

    // 'A refused run() leaves both unchanged.'
    private static void aRefusedRunLeavesThem(Due due) {
        for (int i = 0; i < 2; i++) {
            BlockSchedOpt x = ran();
            x.setInit(9, -9);
            x.setCycle(i, -1);
            due.is("run() with " + i + " unset", x.run(), -1);
            stay(due, "run() refused for " + i + " unset", x);
        }
        BlockSchedOpt x = ran();
        x.setInit(9, -9);
        x.clear();
        due.is("run() of an empty block", x.run(), -1);
        stay(due, "run() refused for an empty block", x);
    }

    // 'Neither changes anything'
    private static void readingChangesNothing(Due due) {
        for (int loc = 0; loc < 16; loc++) {
            int k = loc;
            States.unchanged(due, "seqValue(" + k + ")", state -> state.make().seqValue(k), x -> x.seqValue(k));
            States.unchanged(due, "machValue(" + k + ")", state -> state.make().machValue(k), x -> x.machValue(k));
        }
    }
}
