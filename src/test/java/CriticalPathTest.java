/** Promise 11: critical path. */
public final class CriticalPathTest {
    public static void main(String[] args) {
        Due due = new Due();
        knownBlocks(due);
        nothingMatters(due);
        mixedBlocks(due);
        due.end();
    }

    private static void expect(Due due, String what, int want, int... fields) {
        due.is("criticalPath() of " + what, Look.block(3, 4, fields).criticalPath(), want);
    }

    private static void knownBlocks(Due due) {
        expect(due, "an empty block", 0);
        expect(due, "one LDI", 1, 1, 0, 0, 0);
        expect(due, "one STORE", 1, 6, 0, 0, 0);
        expect(due, "one MUL", 3, 4, 0, 0, 0);
        expect(due, "one LOAD", 4, 5, 0, 0, 0);
        expect(due, "two that share nothing", 4, 5, 0, 1, 0, 4, 2, 3, 3);
        expect(due, "many that share nothing", 1, 1, 0, 0, 0, 1, 1, 0, 0, 1, 2, 0, 0, 1, 3, 0, 0);
        expect(due, "many LOADs", 4, 5, 0, 7, 0, 5, 1, 7, 0, 5, 2, 7, 0, 5, 3, 7, 0);
        expect(due, "a true chain", 8, 5, 0, 1, 0, 4, 2, 0, 0, 2, 3, 2, 2);
        // An anti edge costs nothing, so the reader's own latency can be the longer way.
        expect(due, "an anti edge to a shorter one", 3, 4, 0, 1, 1, 1, 1, 5, 0);
        expect(due, "an anti edge to a longer one", 4, 4, 0, 1, 1, 5, 1, 2, 0);
        expect(due, "an output edge", 4, 4, 0, 1, 1, 1, 0, 5, 0);
        // The chain need not go through neighbours, nor start with the first or end with the last.
        expect(due, "a chain in the middle", 7, 1, 0, 0, 0, 4, 1, 7, 7, 1, 2, 0, 0, 5, 3, 1, 0, 1, 4, 0, 0);
    }

    private static void nothingMatters(Due due) {
        BlockSchedOpt x = Look.block(3, 2, 5, 0, 1, 0, 4, 2, 0, 0, 6, 2, 1, 0);
        due.is("criticalPath()", x.criticalPath(), 6);
        Look.setCycles(x, 60, 3, 3);
        x.run();
        int[] before = Look.everything(x);
        due.is("criticalPath() with cycles", x.criticalPath(), 6);
        due.same("after criticalPath()", Look.everything(x), before);
        x.schedule();
        due.is("criticalPath() after schedule()", x.criticalPath(), 6);
        x.addInstr(2, 5, 5, 5);
        due.is("criticalPath() with one more aside", x.criticalPath(), 6);
        x.addInstr(5, 5, 5, 5);
        due.is("criticalPath() with one more behind", x.criticalPath(), 8);
        x.clear();
        due.is("criticalPath() after clear()", x.criticalPath(), 0);
    }

    private static void mixedBlocks(Due due) {
        Numbers numbers = new Numbers(11);
        for (int round = 0; round < 3000; round++) {
            int mulLatency = numbers.in(0, 5);
            int loadLatency = numbers.in(0, 5);
            int registers = numbers.in(1, 7);
            BlockSchedOpt x = new BlockSchedOpt(mulLatency, loadLatency);
            PlainModel model = new PlainModel(mulLatency, loadLatency);
            for (int i = numbers.in(1, 10); i > 0; i--) {
                int op = numbers.in(1, 6);
                int d = numbers.in(0, registers);
                int a = numbers.in(0, registers);
                int b = numbers.in(0, registers);
                x.addInstr(op, d, a, b);
                model.addInstr(op, d, a, b);
            }
            due.is("criticalPath() in round " + round, x.criticalPath(), model.criticalPath());
        }
    }
}
