/** Promise 7: judging the current cycles. */
public final class CheckTest {
    public static void main(String[] args) {
        Due due = new Due();
        emptyBlock(due);
        someCycleUnset(due);
        eachAnswer(due);
        theFirstConditionWins(due);
        everyTwoConditionsAtOnce(due);
        moreThanTwo(due);
        moreThanOneMemoryOp(due);
        moreThanOneMul(due);
        delaysToTheCycle(due);
        lengthCountsLatency(due);
        nothingChanges(due);
        validSchedulesRunAsInOrder(due);
        due.end();
    }

    private static void expect(Due due, String what, int want, BlockSchedOpt x, int... cycles) {
        Look.setCycles(x, cycles);
        due.is("check() of " + what, x.check(), want);
    }

    // '1. n == 0: CHK_EMPTY (-1)'
    private static void emptyBlock(Due due) {
        for (States.State state : States.ALL) {
            BlockSchedOpt x = state.make();
            x.clear();
            due.is("check() when empty, " + state.name(), x.check(), BlockSchedOpt.CHK_EMPTY);
        }
    }

    // '2. some cycle is -1: CHK_UNSET (-2)'
    private static void someCycleUnset(Due due) {
        for (int n = 1; n <= 10; n++) {
            for (int i = 0; i < n; i++) {
                BlockSchedOpt x = new BlockSchedOpt(1, 1);
                for (int k = 0; k < n; k++) {
                    x.addInstr(1, 0, 0, 0);
                    x.setCycle(k, k);
                }
                due.is("check() of " + n + " with all set", x.check(), n);
                x.setCycle(i, -1);
                due.is("check() of " + n + " with " + i + " unset", x.check(), BlockSchedOpt.CHK_UNSET);
            }
        }
    }

    private static void eachAnswer(Due due) {
        expect(due, "an empty block", -1, new BlockSchedOpt(1, 1));
        int[] ldis = {1, 0, 1, 0, 1, 1, 1, 0, 1, 2, 1, 0};
        expect(due, "unset cycles", -2, Look.block(1, 1, ldis));
        expect(due, "the first unset", -2, Look.block(1, 1, ldis), -1, 0, 1);
        expect(due, "the last unset", -2, Look.block(1, 1, ldis), 0, 1, -1);
        expect(due, "a broken dependence", -3, Look.block(1, 1, 1, 0, 1, 0, 2, 1, 0, 0), 1, 1);
        expect(due, "three in a cycle", -4, Look.block(1, 1, ldis), 63, 63, 63);
        expect(due, "two in a cycle", 64, Look.block(1, 1, ldis), 63, 63, 62);
        expect(due, "two LOADs in a cycle", -5, Look.block(1, 1, 5, 0, 7, 0, 5, 1, 7, 0), 4, 4);
        expect(due, "LOAD and STORE in a cycle", -5, Look.block(1, 1, 5, 0, 7, 0, 6, 1, 7, 0), 4, 4);
        expect(due, "two MULs in a cycle", -6, Look.block(1, 1, 4, 0, 7, 7, 4, 1, 7, 7), 4, 4);
        expect(due, "MUL and LOAD in a cycle", 5, Look.block(1, 1, 4, 0, 7, 7, 5, 1, 7, 0), 4, 4);
    }

    private static void theFirstConditionWins(Due due) {
        // MUL, MUL, LOAD, LOAD, and an ADD that reads what the first MUL writes.
        int[] all = {4, 0, 7, 7, 4, 1, 7, 7, 5, 2, 7, 0, 5, 3, 7, 0, 2, 4, 0, 0};
        expect(due, "unset before the rest", -2, Look.block(1, 1, all), 0, 0, 0, 0, -1);
        expect(due, "a dependence before the rest", -3, Look.block(1, 1, all), 0, 0, 0, 0, 0);
        expect(due, "width before the units", -4, Look.block(1, 1, all), 0, 0, 0, 0, 1);
        expect(due, "width in a later cycle", -4, Look.block(1, 1, all), 0, 0, 5, 5, 5);
        expect(due, "memory before the multiplier", -5, Look.block(1, 1, all), 0, 0, 5, 5, 6);
        expect(due, "the multiplier last", -6, Look.block(1, 1, all), 0, 0, 5, 6, 6);
        expect(due, "none of them", 8, Look.block(1, 1, all), 0, 1, 5, 6, 7);
    }

    // 'The conditions are taken in order; the first that holds gives the answer'
    private static void everyTwoConditionsAtOnce(Due due) {
        // Three LDIs, two LOADs, two MULs, and an ADD that reads what the first MUL writes: each
        // group can have its fault without the others.
        int[] fields = {1, 0, 1, 0, 1, 1, 1, 0, 1, 2, 1, 0, 5, 3, 7, 0, 5, 4, 7, 0, 4, 5, 7, 7, 4, 6, 7, 7,
            2, 0, 5, 5};
        int[] right = {0, 0, 1, 10, 11, 20, 21, 40};
        int[][] wrong = {{7, -1}, {7, 22}, {2, 0}, {4, 10}, {6, 20}};
        int[] answers = {BlockSchedOpt.CHK_UNSET, BlockSchedOpt.CHK_DEP, BlockSchedOpt.CHK_WIDTH,
            BlockSchedOpt.CHK_MEM, BlockSchedOpt.CHK_MUL};
        expect(due, "none of them", 41, Look.block(3, 1, fields), right);
        for (int faults = 1; faults < 32; faults++) {
            BlockSchedOpt x = Look.block(3, 1, fields);
            Look.setCycles(x, right);
            int want = 0;
            for (int f = 4; f >= 0; f--) {
                if ((faults >> f & 1) != 0) {
                    x.setCycle(wrong[f][0], wrong[f][1]);
                    want = answers[f];
                }
            }
            due.is("check() with faults " + Integer.toBinaryString(faults), x.check(), want);
        }
    }

    // A cycle beside c.
    private static int beside(int c) {
        return c == 0 ? 1 : c - 1;
    }

    // '4. some cycle holds more than 2 instructions: CHK_WIDTH (-4)'
    private static void moreThanTwo(Due due) {
        for (int c = 0; c <= 63; c++) {
            BlockSchedOpt ldis = Look.block(1, 1, 1, 0, 1, 0, 1, 1, 1, 0, 1, 2, 1, 0);
            expect(due, "three at " + c, BlockSchedOpt.CHK_WIDTH, ldis, c, c, c);
            expect(due, "two at " + c, Math.max(c, beside(c)) + 1, ldis, c, beside(c), c);
        }
        BlockSchedOpt x = new BlockSchedOpt(1, 1);
        for (int i = 0; i < 8; i++) {
            x.addInstr(1, i, 0, 0);
            x.setCycle(i, 63);
        }
        due.is("check() of eight at 63", x.check(), BlockSchedOpt.CHK_WIDTH);
        Look.setCycles(x, 0, 63, 1, 62, 0, 63, 1, 62);
        due.is("check() of eight in pairs", x.check(), 64);
    }

    // '5. some cycle holds more than one memory op: CHK_MEM (-5)'
    private static void moreThanOneMemoryOp(Due due) {
        for (int c = 0; c <= 63; c++) {
            BlockSchedOpt loads = Look.block(1, 1, 5, 0, 7, 0, 5, 1, 7, 0);
            expect(due, "two LOADs at " + c, BlockSchedOpt.CHK_MEM, loads, c, c);
            expect(due, "one LOAD at " + c, Math.max(c, beside(c)) + 1, loads, c, beside(c));
        }
    }

    // '6. some cycle holds more than one MUL: CHK_MUL (-6)'
    private static void moreThanOneMul(Due due) {
        for (int c = 0; c <= 63; c++) {
            BlockSchedOpt muls = Look.block(1, 1, 4, 0, 7, 7, 4, 1, 7, 7);
            expect(due, "two MULs at " + c, BlockSchedOpt.CHK_MUL, muls, c, c);
            expect(due, "one MUL at " + c, Math.max(c, beside(c)) + 1, muls, c, beside(c));
        }
    }

    // '3. some edge i->j has c(j) < c(i) + delay(i,j): CHK_DEP (-3)'
    private static void delaysToTheCycle(Due due) {
        int[] trueEdge = {4, 0, 7, 7, 2, 1, 0, 0};
        expect(due, "true, one too early", -3, Look.block(3, 1, trueEdge), 10, 12);
        expect(due, "true, just in time", 14, Look.block(3, 1, trueEdge), 10, 13);
        int[] antiEdge = {2, 1, 0, 0, 1, 0, 5, 0};
        expect(due, "anti, one too early", -3, Look.block(1, 1, antiEdge), 10, 9);
        expect(due, "anti, in the same cycle", 11, Look.block(1, 1, antiEdge), 10, 10);
        int[] outputEdge = {5, 0, 7, 0, 4, 0, 7, 7};
        expect(due, "output, one too early", -3, Look.block(2, 4, outputEdge), 10, 12);
        expect(due, "output, just in time", 15, Look.block(2, 4, outputEdge), 10, 13);
        int[] stores = {6, 0, 7, 0, 6, 1, 6, 1};
        expect(due, "stores in one cycle", -3, Look.block(1, 1, stores), 10, 10);
        expect(due, "stores one after the other", 12, Look.block(1, 1, stores), 10, 11);
        expect(due, "a later writer before an earlier", -3, Look.block(1, 1, stores), 63, 0);
        int[] storeLoad = {6, 0, 7, 0, 5, 1, 7, 0};
        expect(due, "STORE and LOAD in one cycle", -3, Look.block(1, 4, storeLoad), 10, 10);
        expect(due, "LOAD just after STORE", 15, Look.block(1, 4, storeLoad), 10, 11);
        int[] loadStore = {5, 1, 7, 0, 6, 0, 7, 0};
        expect(due, "STORE before LOAD", -3, Look.block(1, 4, loadStore), 10, 9);
        // The anti edge allows one cycle for both; the memory port does not.
        expect(due, "LOAD and STORE in one cycle", -5, Look.block(1, 4, loadStore), 10, 10);
        // The true edge would have the reader past the last cycle.
        expect(due, "a reader at 63 too early", -3, Look.block(4, 1, trueEdge), 60, 63);
        expect(due, "a reader at 63 just in time", 64, Look.block(4, 1, trueEdge), 59, 63);
        expect(due, "a reader that would have to wait past 63", -3, Look.block(4, 1, trueEdge), 63, 63);
    }

    // 'Otherwise the schedule is valid and its length (>= 1) is answered.'
    private static void lengthCountsLatency(Due due) {
        expect(due, "one LDI", 1, Look.block(4, 4, 1, 0, 1, 0), 0);
        expect(due, "one STORE", 1, Look.block(4, 4, 6, 0, 1, 0), 0);
        expect(due, "a MUL at the last cycle", 67, Look.block(4, 3, 4, 0, 1, 1), 63);
        expect(due, "a LOAD at the last cycle", 66, Look.block(4, 3, 5, 0, 1, 1), 63);
        expect(due, "a MUL that outlasts a later LDI", 7, Look.block(4, 3, 4, 0, 7, 7, 1, 1, 1, 0), 3, 5);
    }

    // 'check() examines the current cycles and changes nothing.'
    private static void nothingChanges(Due due) {
        BlockSchedOpt x = Look.block(2, 3, 5, 0, 7, 0, 4, 1, 0, 0, 6, 1, 7, 0);
        Look.setCycles(x, 0, 1, 2);
        x.run();
        int[] before = Look.everything(x);
        x.check();
        x.check();
        due.same("after check()", Look.everything(x), before);
        States.unchanged(due, "check()", state -> state.make().check(), block -> block.check());
    }

    // 'Whenever check() would answer a positive L, run() answers 0 and afterwards seqValue(x) == machValue(x)
    // for every x in 0..15: a valid schedule executed on the interlock-free machine leaves the same registers
    // and memory as sequential execution.'
    private static void validSchedulesRunAsInOrder(Due due) {
        Numbers numbers = new Numbers(7);
        int valid = 0;
        for (int round = 0; round < 20000; round++) {
            int n = numbers.in(1, 7);
            BlockSchedOpt x = new BlockSchedOpt(numbers.in(1, 4), numbers.in(1, 4));
            for (int loc = 0; loc < 16; loc++) {
                x.setInit(loc, numbers.any());
            }
            int late = 0;
            for (int i = 0; i < n; i++) {
                x.addInstr(numbers.in(1, 6), numbers.in(0, 3), numbers.in(0, 3), numbers.in(0, 3));
                late = Math.max(0, late + numbers.in(-1, 4));
                x.setCycle(i, late);
            }
            int length = x.check();
            if (length > 0) {
                valid++;
                due.is("run() of a valid schedule", x.run(), 0);
                due.same("values of a valid schedule", Look.machine(x), Look.sequential(x));
                due.is("a schedule no longer than a valid one", x.schedule() <= length, true);
            }
        }
        due.is("enough valid schedules met", valid > 1000, true);
    }
}
