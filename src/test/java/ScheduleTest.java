/** Promise 6: finding the optimal schedule. */
public final class ScheduleTest {
    // Blocks on which simpler searches take long: mulLatency, loadLatency, then op, d, a, b each.
    private static final int[][] HARD = {
        {4, 4, 1, 5, 3, 7, 2, 0, 7, 0, 1, 7, 0, 5, 1, 1, 1, 5, 1, 6, 4, 4, 5, 2, 2, 3, 5, 3, 2, 3,
            5, 2, 2, 0, 4, 2, 3, 2, 4, 3, 3, 4},
        {3, 2, 2, 6, 3, 0, 1, 0, 0, 0, 5, 6, 6, 3, 5, 4, 7, 5, 5, 0, 0, 6, 5, 0, 7, 4, 5, 1, 7, 3,
            5, 2, 2, 0, 5, 5, 5, 4, 5, 3, 7, 4},
        {4, 1, 5, 2, 3, 7, 5, 4, 3, 3, 5, 4, 4, 2, 5, 7, 7, 6, 5, 6, 3, 1, 3, 4, 6, 7, 5, 0, 0, 2,
            5, 5, 1, 7, 1, 0, 6, 3, 1, 1, 3, 4},
        {2, 3, 1, 7, 5, 4, 1, 2, 7, 1, 1, 4, 5, 5, 5, 5, 5, 1, 1, 6, 5, 0, 4, 2, 4, 2, 4, 6, 6, 3,
            5, 1, 3, 6, 1, 0, 3, 6, 4, 0, 0, 3},
        {4, 2, 2, 6, 0, 5, 4, 3, 4, 3, 5, 3, 4, 6, 4, 7, 4, 7, 5, 6, 7, 2, 5, 0, 7, 4, 5, 1, 7, 3,
            5, 5, 7, 6, 5, 4, 7, 4, 5, 2, 7, 5},
        {4, 4, 2, 3, 0, 6, 2, 4, 7, 0, 4, 3, 2, 7, 1, 3, 4, 4, 6, 6, 1, 1, 4, 1, 5, 1, 4, 4, 6, 7,
            4, 5, 5, 5, 4, 2, 7, 6, 4, 0, 0, 6},
        {1, 3, 5, 5, 2, 6, 4, 0, 0, 2, 4, 0, 2, 3, 4, 4, 4, 4, 4, 7, 7, 3, 4, 1, 6, 2, 4, 7, 6, 7,
            4, 4, 6, 3, 2, 6, 6, 3, 3, 3, 0, 5},
    };

    public static void main(String[] args) {
        Due due = new Due();
        emptyBlock(due);
        knownBlocks(due);
        longestBlock(due);
        oldCyclesDoNotMatter(due);
        nothingElseChanges(due);
        hardBlocks(due);
        mixedBlocks(due);
        due.end();
    }

    private static void emptyBlock(Due due) {
        BlockSchedOpt x = new BlockSchedOpt(4, 4);
        int[] before = Look.everything(x);
        due.is("schedule() of an empty block", x.schedule(), 0);
        due.same("after schedule() of an empty block", Look.everything(x), before);
        due.is("check() after it", x.check(), BlockSchedOpt.CHK_EMPTY);
        due.is("run() after it", x.run(), -1);
    }

    private static void expect(Due due, String what, BlockSchedOpt x, int length, int... cycles) {
        due.is("schedule() of " + what, x.schedule(), length);
        due.same("cycles of " + what, Look.cycles(x, cycles.length), cycles);
        due.is("check() of " + what, x.check(), length);
        due.is("run() of " + what, x.run(), 0);
    }

    private static void knownBlocks(Due due) {
        expect(due, "three LDIs", Look.block(1, 1, 1, 0, 1, 0, 1, 1, 1, 0, 1, 2, 1, 0), 2, 0, 0, 1);
        expect(due, "two LOADs", Look.block(1, 2, 5, 0, 7, 0, 5, 1, 7, 0), 3, 0, 1);
        expect(due, "two MULs", Look.block(3, 1, 4, 0, 7, 7, 4, 1, 7, 7), 4, 0, 1);
        expect(due, "LOAD and MUL", Look.block(3, 1, 5, 0, 7, 0, 4, 1, 7, 7), 3, 0, 0);
        expect(due, "reader and writer in one cycle", Look.block(1, 1, 2, 0, 1, 1, 1, 1, 9, 0), 1, 0, 0);
        expect(due, "a MUL overtaken by an LDI's write", Look.block(4, 1, 4, 0, 1, 1, 1, 0, 9, 0), 5, 0, 4);
        expect(due, "an LDI before a MUL", Look.block(4, 1, 1, 0, 9, 0, 4, 0, 1, 1), 5, 0, 1);
        // The length comes first: the first MUL gives way to the one that has a chain behind it.
        expect(due, "a MUL that gives way", Look.block(4, 1, 4, 0, 7, 7, 4, 1, 7, 7, 4, 2, 1, 1), 8, 1, 0, 4);
        expect(due, "LDIs that give way", Look.block(4, 4, 1, 0, 1, 0, 1, 1, 1, 0, 1, 2, 1, 0, 4, 3, 7, 7),
                4, 0, 1, 1, 0);
        // With the length at its least, an earlier number goes first although a later one could.
        expect(due, "slack for the later ones", Look.block(4, 1, 4, 0, 7, 7, 1, 1, 1, 0, 1, 2, 1, 0), 4, 0, 0, 1);
    }

    private static void longestBlock(Due due) {
        int[] fields = new int[40];
        int[] cycles = new int[10];
        for (int i = 0; i < 10; i++) {
            fields[4 * i] = i % 2 == 0 ? 4 : 5;
            cycles[i] = 4 * i;
        }
        expect(due, "ten in one chain", Look.block(9, 9, fields), 40, cycles);
    }

    private static void oldCyclesDoNotMatter(Due due) {
        int[] fields = {1, 1, 5, 0, 5, 2, 0, 0, 4, 3, 1, 2, 2, 4, 1, 1, 6, 3, 0, 1, 3, 1, 4, 2};
        BlockSchedOpt x = Look.block(3, 2, fields);
        int[] best = {0, 0, 2, 1, 5, 2};
        expect(due, "the block when unset", x, 6, best);
        expect(due, "the block once more", x, 6, best);
        Look.setCycles(x, 63, 0, 5, -1, 5, 5);
        expect(due, "the block with other cycles", x, 6, best);
        x.addInstr(9, 9, 9, 9);
        expect(due, "the block after a refused addInstr", x, 6, best);
    }

    private static void nothingElseChanges(Due due) {
        BlockSchedOpt x = Look.block(3, 2, 4, 0, 1, 1, 5, 1, 0, 0, 6, 1, 0, 3);
        x.setInit(1, 6);
        x.setInit(12, 8);
        Look.setCycles(x, 0, 0, 0);
        x.run();
        int[] sequential = Look.sequential(x);
        int[] machine = Look.machine(x);
        x.schedule();
        due.same("sequential values after schedule()", Look.sequential(x), sequential);
        due.same("machine values after schedule()", Look.machine(x), machine);
        due.is("edgeDelay(0, 1) after schedule()", x.edgeDelay(0, 1), 3);
        x.run();
        due.same("run() after schedule(), sequential", Look.sequential(x), sequential);
        due.same("run() after schedule(), machine", Look.machine(x), sequential);
    }

    private static void hardBlocks(Due due) {
        for (int[] hard : HARD) {
            int[] fields = java.util.Arrays.copyOfRange(hard, 2, hard.length);
            compare(due, hard[0], hard[1], fields);
        }
    }

    private static void mixedBlocks(Due due) {
        Numbers numbers = new Numbers(6);
        for (int round = 0; round < 6000; round++) {
            int n = numbers.in(1, 10);
            int ops = numbers.in(0, 2);
            int registers = numbers.in(1, 7);
            int[] fields = new int[4 * n];
            for (int k = 0; k < fields.length; k += 4) {
                // All opcodes, or those of the two scarce units, or those of one of them.
                fields[k] = ops == 0 ? numbers.in(1, 6) : ops == 1 ? numbers.in(4, 6) : numbers.in(3, 4);
                for (int f = 1; f <= 3; f++) {
                    fields[k + f] = numbers.in(0, registers);
                }
            }
            compare(due, numbers.in(1, 4), numbers.in(1, 4), fields);
        }
    }

    private static void compare(Due due, int mulLatency, int loadLatency, int[] fields) {
        int n = fields.length / 4;
        BlockSchedOpt x = Look.block(mulLatency, loadLatency, fields);
        PlainModel model = new PlainModel(mulLatency, loadLatency);
        for (int k = 0; k < fields.length; k += 4) {
            model.addInstr(fields[k], fields[k + 1], fields[k + 2], fields[k + 3]);
        }
        String what = mulLatency + ", " + loadLatency + ": " + java.util.Arrays.toString(fields);
        int length = model.schedule();
        int[] cycles = java.util.stream.IntStream.range(0, n).map(model::cycleOf).toArray();
        expect(due, what, x, length, cycles);
        due.is("1..40 of " + what, length >= 1 && length <= 40, true);
        due.is("at least the critical path of " + what, x.criticalPath() <= length, true);
        for (int t = 0; t < 64; t++) {
            due.is("bundleAt(" + t + ", 2) of " + what, x.bundleAt(t, 2), -1);
        }
    }
}
