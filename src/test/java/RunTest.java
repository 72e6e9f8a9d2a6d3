/** Promise 8: running the block both ways. */
public final class RunTest {
    private static final int MIN = Integer.MIN_VALUE;
    private static final int MAX = Integer.MAX_VALUE;

    public static void main(String[] args) {
        Due due = new Due();
        refusals(due);
        everyOpcode(due);
        arithmeticWraps(due);
        addressesWrap(due);
        readsAtIssueWritesWhenDue(due);
        writesDueTogether(due);
        differencesAreCounted(due);
        runsStartAfresh(due);
        due.end();
    }

    private static void refusals(Due due) {
        BlockSchedOpt x = new BlockSchedOpt(2, 2);
        due.is("run() of an empty block", x.run(), -1);
        Look.add(x, 1, 0, 5, 0, 1, 1, 6, 0);
        due.is("run() with all unset", x.run(), -1);
        Look.setCycles(x, 0, 0);
        due.is("run() with all set", x.run(), 0);
        x.setInit(5, 9);
        x.setCycle(1, -1);
        int[] before = Look.everything(x);
        due.is("run() with the last unset", x.run(), -1);
        due.same("after a refused run()", Look.everything(x), before);
        Look.setCycles(x, -1, 0);
        before = Look.everything(x);
        due.is("run() with the first unset", x.run(), -1);
        due.same("after another refused run()", Look.everything(x), before);
    }

    private static void expectBoth(Due due, String what, BlockSchedOpt x, int loc, int want) {
        due.is("seqValue of " + what, x.seqValue(loc), want);
        due.is("machValue of " + what, x.machValue(loc), want);
    }

    private static void everyOpcode(Due due) {
        BlockSchedOpt x = Look.block(2, 3,
                1, 0, -5, 99, 2, 1, 6, 7, 3, 2, 6, 7, 4, 3, 6, 7, 5, 4, 7, 1, 6, 6, 7, -1);
        x.setInit(6, 30);
        x.setInit(7, 4);
        x.setInit(13, 555);
        x.schedule();
        int[] cycles = Look.cycles(x, 6);
        due.is("run()", x.run(), 0);
        expectBoth(due, "LDI", x, 0, -5);
        expectBoth(due, "ADD", x, 1, 34);
        expectBoth(due, "SUB", x, 2, 26);
        expectBoth(due, "MUL", x, 3, 120);
        expectBoth(due, "LOAD", x, 4, 555);
        expectBoth(due, "STORE", x, 11, 30);
        expectBoth(due, "a register not written", x, 7, 4);
        expectBoth(due, "a word not written", x, 13, 555);
        due.same("cycles after run()", Look.cycles(x, 6), cycles);
    }

    private static void arithmeticWraps(Due due) {
        BlockSchedOpt x = Look.block(1, 1, 2, 0, 6, 6, 3, 1, 7, 6, 4, 2, 6, 6, 4, 3, 6, 7);
        x.setInit(6, MAX);
        x.setInit(7, MIN);
        x.schedule();
        x.run();
        expectBoth(due, "MAX + MAX", x, 0, -2);
        expectBoth(due, "MIN - MAX", x, 1, 1);
        expectBoth(due, "MAX * MAX", x, 2, 1);
        expectBoth(due, "MAX * MIN", x, 3, MIN);
    }

    private static void addressesWrap(Due due) {
        int[][] bases = {{0, 0, 0}, {0, 7, 7}, {0, 8, 0}, {0, -1, 7}, {-100, 3, 7}, {MAX, 1, 0},
            {MIN, -1, 7}, {MAX, MAX, 6}, {MIN, MIN, 0}, {5, 6, 3}};
        for (int[] base : bases) {
            BlockSchedOpt x = Look.block(1, 2, 5, 0, 1, base[1], 6, 2, 1, base[1]);
            x.setInit(1, base[0]);
            x.setInit(2, -77);
            for (int k = 0; k < 8; k++) {
                x.setInit(8 + k, 10 + k);
            }
            x.schedule();
            due.is("run() at " + base[0] + " + " + base[1], x.run(), 0);
            expectBoth(due, "LOAD at " + base[0] + " + " + base[1], x, 0, 10 + base[2]);
            expectBoth(due, "STORE at " + base[0] + " + " + base[1], x, 8 + base[2], -77);
        }
    }

    private static void readsAtIssueWritesWhenDue(Due due) {
        // A MUL of latency 3 issued at 0 can be read at 3, not at 2.
        for (int c = 0; c <= 4; c++) {
            BlockSchedOpt x = Look.block(3, 1, 4, 0, 1, 1, 2, 2, 0, 0);
            x.setInit(0, 1);
            x.setInit(1, 5);
            Look.setCycles(x, 0, c);
            due.is("run() with the reader at " + c, x.run(), c < 3 ? 1 : 0);
            due.is("machValue with the reader at " + c, x.machValue(2), c < 3 ? 2 : 50);
            due.is("seqValue with the reader at " + c, x.seqValue(2), 50);
        }
        // A LOAD reads its word and its address when issued, though it writes later.
        BlockSchedOpt load = Look.block(1, 4, 5, 0, 1, 0, 6, 2, 1, 0, 1, 1, 3, 0);
        load.setInit(2, 9);
        load.setInit(8, 4);
        load.setInit(11, 6);
        Look.setCycles(load, 0, 0, 0);
        due.is("run() of a LOAD overtaken", load.run(), 0);
        due.is("what the LOAD read", load.machValue(0), 4);
        Look.setCycles(load, 1, 0, 0);
        due.is("run() of a LOAD issued too late", load.run(), 1);
        due.is("what the late LOAD read", load.machValue(0), 6);
        // A STORE keeps the value and address of its issue.
        BlockSchedOpt store = Look.block(1, 1, 1, 0, 2, 0, 6, 0, 0, 0);
        Look.setCycles(store, 0, 0);
        due.is("run() of a STORE beside its source", store.run(), 1);
        due.is("m0", store.machValue(8), 0);
        due.is("m2", store.machValue(10), 0);
        due.is("m2 in order", store.seqValue(10), 2);
    }

    private static void writesDueTogether(Due due) {
        BlockSchedOpt x = Look.block(3, 2, 4, 0, 1, 1, 5, 0, 2, 0, 1, 0, 7, 0);
        x.setInit(1, 5);
        x.setInit(8, 6);
        Look.setCycles(x, 0, 1, 2);
        x.run();
        due.is("the highest index stays", x.machValue(0), 7);
        Look.setCycles(x, 0, 1, 1);
        x.run();
        due.is("the higher of two stays", x.machValue(0), 6);
        Look.setCycles(x, 1, 1, 1);
        due.is("run() with the first write last", x.run(), 1);
        due.is("the last write stays", x.machValue(0), 25);
        BlockSchedOpt stores = Look.block(1, 1, 6, 1, 0, 0, 6, 2, 0, 0, 6, 3, 0, 1);
        stores.setInit(1, 11);
        stores.setInit(2, 22);
        stores.setInit(3, 33);
        Look.setCycles(stores, 63, 63, 63);
        due.is("run() of three STOREs in one cycle", stores.run(), 0);
        due.is("the higher STORE stays", stores.machValue(8), 22);
    }

    private static void differencesAreCounted(Due due) {
        BlockSchedOpt x = Look.block(1, 1, 1, 0, 1, 0, 2, 1, 0, 0, 2, 2, 0, 0, 2, 3, 0, 0, 2, 4, 0, 0,
                2, 5, 0, 0, 2, 6, 0, 0, 2, 7, 0, 0, 6, 0, 0, 0);
        Look.setCycles(x, 9, 0, 0, 0, 0, 0, 0, 0, 0);
        due.is("run() with all readers early", x.run(), 8);
        due.is("m1 in order", x.seqValue(9), 1);
        due.is("m1 on the machine", x.machValue(9), 0);
        Look.setCycles(x, 0, 0, 0, 0, 0, 1, 1, 1, 1);
        due.is("run() with half of them early", x.run(), 4);
        x.setInit(0, 1);
        Look.setCycles(x, 9, 0, 0, 0, 0, 0, 0, 0, 0);
        due.is("run() of a schedule not valid that happens to agree", x.run(), 0);
        due.is("check() of it", x.check(), BlockSchedOpt.CHK_DEP);
    }

    private static void runsStartAfresh(Due due) {
        BlockSchedOpt x = Look.block(2, 2, 2, 0, 0, 1, 6, 0, 2, 0);
        x.setInit(1, 3);
        x.schedule();
        for (int round = 0; round < 3; round++) {
            x.run();
            expectBoth(due, "r0 in round " + round, x, 0, 3);
        }
        x.clear();
        Look.add(x, 1, 5, 5, 0);
        x.setCycle(0, 63);
        x.run();
        expectBoth(due, "r0 no longer written", x, 0, 0);
        expectBoth(due, "m0 no longer written", x, 8, 0);
        expectBoth(due, "r5", x, 5, 5);
    }
}
