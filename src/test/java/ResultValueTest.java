/** Promise 9: reading result values. */
public final class ResultValueTest {
    public static void main(String[] args) {
        Due due = new Due();
        zeroBeforeAnyRun(due);
        zeroOutside(due);
        onlyRunChangesThem(due);
        due.end();
    }

    private static void zeroBeforeAnyRun(Due due) {
        BlockSchedOpt x = Look.block(1, 1, 1, 0, 5, 0);
        for (int loc = 0; loc < 16; loc++) {
            x.setInit(loc, 90 + loc);
        }
        x.schedule();
        x.check();
        due.same("sequential before run()", Look.sequential(x), new int[16]);
        due.same("machine before run()", Look.machine(x), new int[16]);
    }

    private static BlockSchedOpt ran() {
        BlockSchedOpt x = Look.block(1, 1, 1, 0, 5, 0, 2, 1, 0, 0);
        for (int loc = 0; loc < 16; loc++) {
            x.setInit(loc, 90 + loc);
        }
        Look.setCycles(x, 1, 0);
        x.run();
        return x;
    }

    private static void zeroOutside(Due due) {
        BlockSchedOpt x = ran();
        for (int loc : new int[] {Integer.MIN_VALUE, -16, -1, 16, 17, 32, Integer.MAX_VALUE}) {
            due.is("seqValue(" + loc + ")", x.seqValue(loc), 0);
            due.is("machValue(" + loc + ")", x.machValue(loc), 0);
        }
    }

    private static void stay(Due due, String after, BlockSchedOpt x) {
        int[] sequential = new int[16];
        for (int loc = 0; loc < 16; loc++) {
            sequential[loc] = 90 + loc;
        }
        sequential[0] = 5;
        int[] machine = sequential.clone();
        sequential[1] = 10;
        machine[1] = 180;
        due.same("sequential after " + after, Look.sequential(x), sequential);
        due.same("machine after " + after, Look.machine(x), machine);
    }

    private static void onlyRunChangesThem(Due due) {
        BlockSchedOpt x = ran();
        stay(due, "run()", x);
        x.setInit(0, 1);
        x.setInit(15, 1);
        stay(due, "setInit", x);
        x.setCycle(1, 9);
        stay(due, "setCycle", x);
        x.addInstr(1, 3, 8, 0);
        stay(due, "addInstr", x);
        x.run();
        stay(due, "a refused run()", x);
        x.schedule();
        stay(due, "schedule()", x);
        x.check();
        x.criticalPath();
        stay(due, "check() and criticalPath()", x);
        x.clear();
        stay(due, "clear()", x);
        x.run();
        stay(due, "run() refused for want of a block", x);
        Look.add(x, 1, 0, 4, 0);
        x.setCycle(0, 0);
        x.run();
        due.is("seqValue(0) after the next run()", x.seqValue(0), 4);
        due.is("seqValue(15) after the next run()", x.seqValue(15), 1);
        due.is("machValue(1) after the next run()", x.machValue(1), 91);
    }
}
