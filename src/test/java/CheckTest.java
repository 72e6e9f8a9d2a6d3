/** Promise 7: judging the current cycles. */
public final class CheckTest {
    public static void main(String[] args) {
        Due due = new Due();
        eachAnswer(due);
        theFirstConditionWins(due);
        delaysToTheCycle(due);
        lengthCountsLatency(due);
        nothingChanges(due);
        validSchedulesRunAsInOrder(due);
        due.end();
    }

    private static void expect(Due due, String what, int want, BlockSchedOpt x, int... cycles) {
        Look.setCycles(x, cycles);
        due.is("check() of " + what, x.check(), want);
    }

    private static void eachAnswer(Due due) {
        expect(due, "an empty block", -1, new BlockSchedOpt(1, 1));
        int[] ldis = {1, 0, 1, 0, 1, 1, 1, 0, 1, 2, 1, 0};
        expect(due, "unset cycles", -2, Look.block(1, 1, ldis));
        expect(due, "the first unset", -2, Look.block(1, 1, ldis), -1, 0, 1);
        expect(due, "the last unset", -2, Look.block(1, 1, ldis), 0, 1, -1);
        expect(due, "a broken dependence", -3, Look.block(1, 1, 1, 0, 1, 0, 2, 1, 0, 0), 1, 1);
        expect(due, "three in a cycle", -4, Look.block(1, 1, ldis), 63, 63, 63);
        expect(due, "two in a cycle", 64, Look.block(1, 1, ldis), 63, 63, 62);
        expect(due, "two LOADs in a cycle", -5, Look.block(1, 1, 5, 0, 7, 0, 5, 1, 7, 0), 4, 4);
        expect(due, "LOAD and STORE in a cycle", -5, Look.block(1, 1, 5, 0, 7, 0, 6, 1, 7, 0), 4, 4);
        expect(due, "two MULs in a cycle", -6, Look.block(1, 1, 4, 0, 7, 7, 4, 1, 7, 7), 4, 4);
        expect(due, "MUL and LOAD in a cycle", 5, Look.block(1, 1, 4, 0, 7, 7, 5, 1, 7, 0), 4, 4);
    }

    private static void theFirstConditionWins(Due due) {
        // MUL, MUL, LOAD, LOAD, and an ADD that reads what the first MUL writes.
        int[] all = {4, 0, 7, 7, 4, 1, 7, 7, 5, 2, 7, 0, 5, 3, 7, 0, 2, 4, 0, 0};
        expect(due, "unset before the rest", -2, Look.block(1, 1, all), 0, 0, 0, 0, -1);
        expect(due, "a dependence before the rest", -3, Look.block(1, 1, all), 0, 0, 0, 0, 0);
        expect(due, "width before the units", -4, Look.block(1, 1, all), 0, 0, 0, 0, 1);
        expect(due, "width in a later cycle", -4, Look.block(1, 1, all), 0, 0, 5, 5, 5);
        expect(due, "memory before the multiplier", -5, Look.block(1, 1, all), 0, 0, 5, 5, 6);
        expect(due, "the multiplier last", -6, Look.block(1, 1, all), 0, 0, 5, 6, 6);
        expect(due, "none of them", 8, Look.block(1, 1, all), 0, 1, 5, 6, 7);
    }

    private static void delaysToTheCycle(Due due) {
        int[] trueEdge = {4, 0, 7, 7, 2, 1, 0, 0};
        expect(due, "true, one too early", -3, Look.block(3, 1, trueEdge), 10, 12);
        expect(due, "true, just in time", 14, Look.block(3, 1, trueEdge), 10, 13);
        int[] antiEdge = {2, 1, 0, 0, 1, 0, 5, 0};
        expect(due, "anti, one too early", -3, Look.block(1, 1, antiEdge), 10, 9);
        expect(due, "anti, in the same cycle", 11, Look.block(1, 1, antiEdge), 10, 10);
        int[] outputEdge = {5, 0, 7, 0, 4, 0, 7, 7};
        expect(due, "output, one too early", -3, Look.block(2, 4, outputEdge), 10, 12);
        expect(due, "output, just in time", 15, Look.block(2, 4, outputEdge), 10, 13);
        int[] stores = {6, 0, 7, 0, 6, 1, 6, 1};
        expect(due, "stores in one cycle", -3, Look.block(1, 1, stores), 10, 10);
        expect(due, "stores one after the other", 12, Look.block(1, 1, stores), 10, 11);
        expect(due, "a later writer before an earlier", -3, Look.block(1, 1, stores), 63, 0);
    }

    private static void lengthCountsLatency(Due due) {
        expect(due, "one LDI", 1, Look.block(4, 4, 1, 0, 1, 0), 0);
        expect(due, "one STORE", 1, Look.block(4, 4, 6, 0, 1, 0), 0);
        expect(due, "a MUL at the last cycle", 67, Look.block(4, 3, 4, 0, 1, 1), 63);
        expect(due, "a LOAD at the last cycle", 66, Look.block(4, 3, 5, 0, 1, 1), 63);
        expect(due, "a MUL that outlasts a later LDI", 7, Look.block(4, 3, 4, 0, 7, 7, 1, 1, 1, 0), 3, 5);
    }

    private static void nothingChanges(Due due) {
        BlockSchedOpt x = Look.block(2, 3, 5, 0, 7, 0, 4, 1, 0, 0, 6, 1, 7, 0);
        Look.setCycles(x, 0, 1, 2);
        x.run();
        int[] before = Look.everything(x);
        x.check();
        x.check();
        due.same("after check()", Look.everything(x), before);
    }

    private static void validSchedulesRunAsInOrder(Due due) {
        Numbers numbers = new Numbers(7);
        int valid = 0;
        for (int round = 0; round < 20000; round++) {
            int n = numbers.in(1, 7);
            BlockSchedOpt x = new BlockSchedOpt(numbers.in(1, 4), numbers.in(1, 4));
            for (int loc = 0; loc < 16; loc++) {
                x.setInit(loc, numbers.any());
            }
            int late = 0;
            for (int i = 0; i < n; i++) {
                x.addInstr(numbers.in(1, 6), numbers.in(0, 3), numbers.in(0, 3), numbers.in(0, 3));
                late = Math.max(0, late + numbers.in(-1, 4));
                x.setCycle(i, late);
            }
            int length = x.check();
            if (length > 0) {
                valid++;
                due.is("run() of a valid schedule", x.run(), 0);
                due.same("values of a valid schedule", Look.machine(x), Look.sequential(x));
                due.is("a schedule no longer than a valid one", x.schedule() <= length, true);
            }
        }
        due.is("enough valid schedules met", valid > 1000, true);
    }
}
