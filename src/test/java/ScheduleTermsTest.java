/** 'Terms used below': schedules and bundles. */
public final class ScheduleTermsTest {
    private static final int RANGE = 5;

    public static void main(String[] args) {
        Due due = new Due();
        cyclesInRangeOrUnset(due);
        validIffAllFourHold(due);
        edgesHold(due);
        twoInACycle(due);
        oneMemoryOpInACycle(due);
        oneMulInACycle(due);
        lengthIsTheGreatestEnd(due);
        leastLengthComesFirst(due);
        firstCyclesAreComparedFirst(due);
        cyclesBeyondTheLast(due);
        bundlesAndNoOps(due);
        due.end();
    }

    // 'Each instruction i has an issue cycle c(i) in 0..MAX_CYCLE-1 (0..63), or -1 meaning unset.'
    private static void cyclesInRangeOrUnset(Due due) {
        BlockSchedOpt x = Look.block(1, 1, 1, 0, 0, 0, 1, 1, 0, 0);
        due.is("cycle before it is set", x.cycleOf(1), -1);
        for (int c = -100; c <= 100; c++) {
            boolean cycle = c >= -1 && c <= BlockSchedOpt.MAX_CYCLE - 1;
            int before = x.cycleOf(1);
            due.is("setCycle(1, " + c + ")", x.setCycle(1, c), cycle);
            due.is("cycleOf(1) then", x.cycleOf(1), cycle ? c : before);
        }
        due.is("the other cycle", x.cycleOf(0), -1);
    }

    /** How many instructions of the given opcodes the fullest cycle holds. */
    private static int fullest(int[] ops, int[] cycles, int lowOp, int highOp) {
        int[] held = new int[RANGE];
        int most = 0;
        for (int i = 0; i < ops.length; i++) {
            if (ops[i] >= lowOp && ops[i] <= highOp) {
                held[cycles[i]]++;
                most = Math.max(most, held[cycles[i]]);
            }
        }
        return most;
    }

    private static boolean edgesAllow(BlockSchedOpt x, int[] cycles) {
        for (int i = 0; i < cycles.length; i++) {
            for (int j = i + 1; j < cycles.length; j++) {
                if (x.edgeKinds(i, j) != 0 && cycles[j] < cycles[i] + x.edgeDelay(i, j)) {
                    return false;
                }
            }
        }
        return true;
    }

    // 'With all n cycles set, the schedule is valid iff': every set of cycles of four instructions
    private static void validIffAllFourHold(Due due) {
        Numbers numbers = new Numbers(21);
        int[] met = new int[16];
        for (int round = 0; round < 300; round++) {
            BlockSchedOpt x = new BlockSchedOpt(numbers.in(1, 3), numbers.in(1, 3));
            int[] ops = new int[4];
            for (int i = 0; i < 4; i++) {
                // Half of the blocks have the two scarce units alone.
                ops[i] = numbers.in(round % 2 == 0 ? 1 : 4, 6);
                x.addInstr(ops[i], numbers.in(0, 7), numbers.in(0, 7), numbers.in(0, 7));
            }
            for (int code = 0; code < RANGE * RANGE * RANGE * RANGE; code++) {
                int[] cycles = {code / 125, code / 25 % 5, code / 5 % 5, code % 5};
                Look.setCycles(x, cycles);
                boolean edges = edgesAllow(x, cycles);
                boolean width = fullest(ops, cycles, 1, 6) <= 2;
                boolean memory = fullest(ops, cycles, 5, 6) <= 1;
                boolean multiplier = fullest(ops, cycles, 4, 4) <= 1;
                due.is("valid in round " + round + " at " + code,
                        x.check() > 0, edges && width && memory && multiplier);
                met[(edges ? 8 : 0) + (width ? 4 : 0) + (memory ? 2 : 0) + (multiplier ? 1 : 0)]++;
            }
        }
        for (int which = 0; which < 16; which++) {
            due.is("conditions " + Integer.toBinaryString(which) + " met", met[which] > 0, true);
        }
    }

    private static void judged(Due due, String what, int want, BlockSchedOpt x, int... cycles) {
        Look.setCycles(x, cycles);
        due.is("check() of " + what, x.check(), want);
    }

    // '(1) every edge i->j has c(j) >= c(i) + delay(i,j)'
    private static void edgesHold(Due due) {
        // Three in a chain, and the edge from the first to the last asks more than the chain.
        BlockSchedOpt x = Look.block(4, 1, 4, 0, 1, 1, 1, 1, 5, 0, 2, 2, 0, 1);
        due.is("edgeDelay(0, 1)", x.edgeDelay(0, 1), 0);
        due.is("edgeDelay(1, 2)", x.edgeDelay(1, 2), 1);
        due.is("edgeDelay(0, 2)", x.edgeDelay(0, 2), 4);
        judged(due, "each just in time", 8, x, 3, 3, 7);
        judged(due, "the long edge broken", BlockSchedOpt.CHK_DEP, x, 3, 3, 6);
        judged(due, "the edge to the last broken", BlockSchedOpt.CHK_DEP, x, 3, 7, 7);
        judged(due, "the edge from the first broken", BlockSchedOpt.CHK_DEP, x, 3, 2, 7);
    }

    // '(2) no cycle holds more than ISSUE_WIDTH (2) instructions'
    private static void twoInACycle(Due due) {
        BlockSchedOpt x = Look.block(1, 1, 1, 0, 0, 0, 1, 1, 0, 0, 1, 2, 0, 0, 1, 3, 0, 0, 1, 4, 0, 0);
        judged(due, "two, two and one", 3, x, 0, 0, 1, 1, 2);
        judged(due, "one, two and two", 3, x, 2, 1, 2, 1, 0);
        judged(due, "three and two", BlockSchedOpt.CHK_WIDTH, x, 0, 1, 0, 1, 0);
        judged(due, "two and three", BlockSchedOpt.CHK_WIDTH, x, 1, 0, 1, 0, 1);
        judged(due, "five", BlockSchedOpt.CHK_WIDTH, x, 1, 1, 1, 1, 1);
    }

    // '(3) no cycle holds more than one memory op'
    private static void oneMemoryOpInACycle(Due due) {
        BlockSchedOpt x = Look.block(1, 1, 5, 0, 7, 0, 5, 1, 7, 0, 4, 2, 7, 7, 6, 3, 7, 0);
        judged(due, "a memory op in each cycle", 3, x, 0, 1, 0, 2);
        judged(due, "two LOADs in a cycle", BlockSchedOpt.CHK_MEM, x, 1, 1, 0, 2);
        judged(due, "LOAD and STORE in a cycle", BlockSchedOpt.CHK_MEM, x, 0, 2, 0, 2);
    }

    // '(4) no cycle holds more than one MUL'
    private static void oneMulInACycle(Due due) {
        BlockSchedOpt x = Look.block(1, 1, 4, 0, 7, 7, 4, 1, 7, 7, 5, 2, 7, 7, 2, 3, 7, 7);
        judged(due, "a MUL in each cycle", 2, x, 0, 1, 0, 1);
        judged(due, "two MULs in a cycle", BlockSchedOpt.CHK_MUL, x, 1, 1, 0, 0);
        // The multiplier takes a new MUL in each cycle, however long one takes.
        BlockSchedOpt slow = Look.block(4, 1, 4, 0, 7, 7, 4, 1, 7, 7, 4, 2, 7, 7);
        judged(due, "MULs that overlap", 6, slow, 0, 1, 2);
    }

    // 'Its length is the greatest c(i) + lat(i) over all i.'
    private static void lengthIsTheGreatestEnd(Due due) {
        int[] ends = {34, 32, 29, 31};
        for (int greatest = 0; greatest < 4; greatest++) {
            BlockSchedOpt x = Look.block(4, 3, 4, 0, 7, 7, 5, 1, 7, 7, 1, 2, 7, 7, 3, 3, 7, 7);
            int[] cycles = {10, 9, 8, 10};
            judged(due, "all near", 14, x, cycles);
            cycles[greatest] += 20;
            judged(due, "the end of number " + greatest, ends[greatest], x, cycles);
        }
    }

    // 'The optimal schedule is, among valid schedules of least length'
    private static void leastLengthComesFirst(Due due) {
        // c(0) = 0 is valid too, but then MUL 1 and the one behind it end at 9.
        BlockSchedOpt x = Look.block(4, 1, 4, 0, 7, 7, 4, 1, 7, 7, 4, 2, 1, 1);
        judged(due, "the one with c(0) = 0", 9, x, 0, 1, 5);
        due.is("schedule()", x.schedule(), 8);
        due.same("its cycles", Look.cycles(x, 3), new int[] {1, 0, 4});
    }

    // 'the one whose vector (c(0), c(1), .., c(n-1)) is lexicographically least (c(0) compared first;
    // smaller wins)'
    private static void firstCyclesAreComparedFirst(Due due) {
        // A long MUL leaves room for four LDIs: those with a lower number come as early as they can.
        for (int mul = 0; mul <= 4; mul++) {
            BlockSchedOpt x = new BlockSchedOpt(4, 1);
            for (int i = 0; i <= 4; i++) {
                x.addInstr(i == mul ? BlockSchedOpt.OP_MUL : BlockSchedOpt.OP_LDI, i, 7, 7);
            }
            int[][] want = {{0, 0, 1, 1, 2}, {0, 0, 1, 1, 2}, {0, 1, 0, 1, 2}, {0, 1, 1, 0, 2}, {0, 1, 1, 2, 0}};
            due.is("schedule() with the MUL at number " + mul, x.schedule(), 4);
            due.same("cycles with the MUL at number " + mul, Look.cycles(x, 5), want[mul]);
        }
    }

    // 'Cycles that exceed 63 are not schedules; the optimal one never needs them.'
    private static void cyclesBeyondTheLast(Due due) {
        BlockSchedOpt x = new BlockSchedOpt(4, 4);
        for (int i = 0; i < 10; i++) {
            x.addInstr(BlockSchedOpt.OP_MUL, 0, 0, 0);
            due.is("setCycle(" + i + ", 64)", x.setCycle(i, 64), false);
        }
        due.is("schedule() of the longest block", x.schedule(), 40);
        for (int i = 0; i < 10; i++) {
            due.is("cycleOf(" + i + ") in the longest block", x.cycleOf(i), 4 * i);
        }
    }

    // 'Bundle t holds the instructions with c(i) = t in ascending index; its other issue slots are
    // no-ops.'
    private static void bundlesAndNoOps(Due due) {
        BlockSchedOpt x = Look.block(4, 1, 1, 0, 0, 0, 4, 1, 7, 7, 1, 2, 0, 0, 2, 3, 1, 1);
        x.schedule();
        int[][] bundles = {{0, 1}, {2, -1}, {-1, -1}, {-1, -1}, {3, -1}, {-1, -1}};
        for (int t = 0; t < bundles.length; t++) {
            due.is("bundleAt(" + t + ", 0)", x.bundleAt(t, 0), bundles[t][0]);
            due.is("bundleAt(" + t + ", 1)", x.bundleAt(t, 1), bundles[t][1]);
        }
    }
}
