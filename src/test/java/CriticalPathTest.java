/** Promise 11: critical path. */
public final class CriticalPathTest {
    public static void main(String[] args) {
        Due due = new Due();
        emptyBlock(due);
        chainOfOne(due);
        knownBlocks(due);
        longestChain(due);
        everyChain(due);
        nothingMatters(due);
        mixedBlocks(due);
        due.end();
    }

    private static void expect(Due due, String what, int want, int... fields) {
        due.is("criticalPath() of " + what, Look.block(3, 4, fields).criticalPath(), want);
    }

    // 'criticalPath() answers 0 if n == 0.'
    private static void emptyBlock(Due due) {
        for (States.State state : States.ALL) {
            BlockSchedOpt x = state.make();
            x.clear();
            due.is("criticalPath() when empty, " + state.name(), x.criticalPath(), 0);
        }
    }

    // 'A chain of one instruction counts, so with n >= 1 the answer is at least 1.'
    private static void chainOfOne(Due due) {
        for (int latency = 1; latency <= 4; latency++) {
            int[] want = {0, 1, 1, 1, latency, 5 - latency, 1};
            for (int op = 1; op <= 6; op++) {
                BlockSchedOpt x = Look.block(latency, 5 - latency, op, 3, 3, 3);
                due.is("criticalPath() of one of op " + op, x.criticalPath(), want[op]);
                // Others without an edge do not make it longer, wherever they stand.
                BlockSchedOpt among = Look.block(latency, 5 - latency, 1, 0, 0, 0, op, 3, 3, 3, 1, 1, 0, 0);
                due.is("criticalPath() of op " + op + " among others", among.criticalPath(), want[op]);
            }
        }
        for (States.State state : States.ALL) {
            if (state.n() >= 1) {
                due.is("criticalPath() at least 1, " + state.name(), state.make().criticalPath() >= 1, true);
            }
        }
    }

    // The chain of all ten, with the greatest delays and with the least.
    private static void longestChain(Due due) {
        for (int latency = 1; latency <= 4; latency++) {
            BlockSchedOpt muls = new BlockSchedOpt(latency, 1);
            BlockSchedOpt loads = new BlockSchedOpt(1, latency);
            BlockSchedOpt anti = new BlockSchedOpt(latency, 1);
            for (int i = 0; i < 10; i++) {
                muls.addInstr(4, 0, 0, 0);
                loads.addInstr(5, 0, 0, 0);
                due.is("criticalPath() of MULs up to " + i, muls.criticalPath(), latency * (i + 1));
                due.is("criticalPath() of LOADs up to " + i, loads.criticalPath(), latency * (i + 1));
            }
            for (int r = 0; r < 7; r++) {
                anti.addInstr(4, r, r + 1, r + 1);
            }
            due.is("criticalPath() of a chain of anti edges", anti.criticalPath(), latency);
        }
    }

    private static void knownBlocks(Due due) {
        expect(due, "an empty block", 0);
        expect(due, "one LDI", 1, 1, 0, 0, 0);
        expect(due, "one STORE", 1, 6, 0, 0, 0);
        expect(due, "one MUL", 3, 4, 0, 0, 0);
        expect(due, "one LOAD", 4, 5, 0, 0, 0);
        expect(due, "two that share nothing", 4, 5, 0, 1, 0, 4, 2, 3, 3);
        expect(due, "many that share nothing", 1, 1, 0, 0, 0, 1, 1, 0, 0, 1, 2, 0, 0, 1, 3, 0, 0);
        expect(due, "many LOADs", 4, 5, 0, 7, 0, 5, 1, 7, 0, 5, 2, 7, 0, 5, 3, 7, 0);
        expect(due, "a true chain", 8, 5, 0, 1, 0, 4, 2, 0, 0, 2, 3, 2, 2);
        // An anti edge costs nothing, so the reader's own latency can be the longer way.
        expect(due, "an anti edge to a shorter one", 3, 4, 0, 1, 1, 1, 1, 5, 0);
        expect(due, "an anti edge to a longer one", 4, 4, 0, 1, 1, 5, 1, 2, 0);
        expect(due, "an output edge", 4, 4, 0, 1, 1, 1, 0, 5, 0);
        // The chain need not go through neighbours, nor start with the first or end with the last.
        expect(due, "a chain in the middle", 7, 1, 0, 0, 0, 4, 1, 7, 7, 1, 2, 0, 0, 5, 3, 1, 0, 1, 4, 0, 0);
    }

    // 'Otherwise it answers the greatest, over every chain i1 < i2 < .. < ik (k >= 1) where each consecutive
    // pair has an edge, of the sum of the delays along the chain plus lat(ik).'
    private static void everyChain(Due due) {
        Numbers numbers = new Numbers(111);
        for (int round = 0; round < 400; round++) {
            int[] latency = {0, 1, 1, 1, numbers.in(1, 4), numbers.in(1, 4), 1};
            BlockSchedOpt x = new BlockSchedOpt(latency[4], latency[5]);
            int n = numbers.in(1, 10);
            int[] ends = new int[n];
            for (int i = 0; i < n; i++) {
                int op = numbers.in(1, 6);
                ends[i] = latency[op];
                x.addInstr(op, numbers.in(0, 7), numbers.in(0, 7), numbers.in(0, 7));
            }
            int greatest = 0;
            for (int members = 1; members < 1 << n; members++) {
                greatest = Math.max(greatest, lengthOfChain(x, members, ends));
            }
            due.is("criticalPath() over every chain, round " + round, x.criticalPath(), greatest);
        }
    }

    /** The delays and the last latency of the instructions whose bits are set; 0 if that is no chain. */
    private static int lengthOfChain(BlockSchedOpt x, int members, int[] ends) {
        int length = 0;
        int last = -1;
        for (int i = 0; i < ends.length; i++) {
            if ((members >> i & 1) != 0) {
                if (last >= 0 && x.edgeKinds(last, i) == 0) {
                    return 0;
                }
                length += last < 0 ? 0 : x.edgeDelay(last, i);
                last = i;
            }
        }
        return length + ends[last];
    }

    // 'It depends only on the instructions and the latencies, not on cycles, and changes nothing.'
    private static void nothingMatters(Due due) {
        BlockSchedOpt x = Look.block(3, 2, 5, 0, 1, 0, 4, 2, 0, 0, 6, 2, 1, 0);
        due.is("criticalPath()", x.criticalPath(), 6);
        Look.setCycles(x, 60, 3, 3);
        x.run();
        int[] before = Look.everything(x);
        due.is("criticalPath() with cycles", x.criticalPath(), 6);
        due.same("after criticalPath()", Look.everything(x), before);
        x.schedule();
        due.is("criticalPath() after schedule()", x.criticalPath(), 6);
        x.addInstr(2, 5, 5, 5);
        due.is("criticalPath() with one more aside", x.criticalPath(), 6);
        x.addInstr(5, 5, 5, 5);
        due.is("criticalPath() with one more behind", x.criticalPath(), 8);
        x.clear();
        due.is("criticalPath() after clear()", x.criticalPath(), 0);
        States.unchanged(due, "criticalPath()", state -> state.make().criticalPath(), y -> y.criticalPath());
    }

    private static void mixedBlocks(Due due) {
        Numbers numbers = new Numbers(11);
        for (int round = 0; round < 3000; round++) {
            int mulLatency = numbers.in(0, 5);
            int loadLatency = numbers.in(0, 5);
            int registers = numbers.in(1, 7);
            BlockSchedOpt x = new BlockSchedOpt(mulLatency, loadLatency);
            PlainModel model = new PlainModel(mulLatency, loadLatency);
            for (int i = numbers.in(1, 10); i > 0; i--) {
                int op = numbers.in(1, 6);
                int d = numbers.in(0, registers);
                int a = numbers.in(0, registers);
                int b = numbers.in(0, registers);
                x.addInstr(op, d, a, b);
                model.addInstr(op, d, a, b);
            }
            due.is("criticalPath() in round " + round, x.criticalPath(), model.criticalPath());
        }
    }
}
