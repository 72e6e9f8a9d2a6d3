/** 'What it is': one block from its first instruction to the comparison, as the first section tells it. */
public final class WhatItIsTest {
    public static void main(String[] args) {
        Due due = new Due();
        upToTenInstructions(due);
        dependenceGraph(due);
        latenciesAreFixed(due);
        optimalSchedule(due);
        anySchedule(due);
        comparedWithOrder(due);
        due.end();
    }

    /** r1 = 5; r2 = m0; r3 = r1 * r2; r1 = r1 + r1; m1 = r3; r3 = r1 - r2, with 7 in m0. */
    private static BlockSchedOpt block() {
        BlockSchedOpt x = Look.block(3, 2, BlockSchedOpt.OP_LDI, 1, 5, 0, BlockSchedOpt.OP_LOAD, 2, 0, 0,
                BlockSchedOpt.OP_MUL, 3, 1, 2, BlockSchedOpt.OP_ADD, 1, 1, 1,
                BlockSchedOpt.OP_STORE, 3, 0, 1, BlockSchedOpt.OP_SUB, 3, 1, 2);
        x.setInit(8, 7);
        return x;
    }

    // 'BlockSchedOpt is one Java class that holds a single basic block: a straight-line list of up to ten
    // instructions (load immediate, add, subtract, multiply, load, store) over 8 registers and 8 memory words,
    // added one per call.'
    private static void upToTenInstructions(Due due) {
        for (int op = 1; op <= 6; op++) {
            BlockSchedOpt x = new BlockSchedOpt(1, 1);
            for (int call = 0; call < 15; call++) {
                due.is("call " + call + " of op " + op, x.addInstr(op, 7, 7, 7), call < 10 ? call : -1);
            }
            due.is("a ninth register", new BlockSchedOpt(1, 1).addInstr(op, 8, 7, 7), -1);
        }
    }

    // 'From the block it derives the dependence graph of true, anti and output dependences, with per-opcode
    // latencies'
    private static void dependenceGraph(Due due) {
        BlockSchedOpt x = block();
        int[][] edges = {{0, 2, 1, 1}, {0, 3, 5, 1}, {0, 5, 1, 1}, {1, 2, 1, 2}, {1, 4, 2, 0}, {1, 5, 1, 2},
            {2, 3, 2, 0}, {2, 4, 1, 3}, {2, 5, 4, 3}, {3, 5, 1, 1}, {4, 5, 2, 0}, {0, 1, 0, -1}, {3, 4, 0, -1}};
        for (int[] edge : edges) {
            String pair = "(" + edge[0] + ", " + edge[1] + ")";
            due.is("edgeKinds" + pair, x.edgeKinds(edge[0], edge[1]), edge[2]);
            due.is("edgeDelay" + pair, x.edgeDelay(edge[0], edge[1]), edge[3]);
        }
        due.is("criticalPath()", x.criticalPath(), 6);
    }

    // 'the multiply and load latencies are fixed at construction'
    private static void latenciesAreFixed(Due due) {
        for (int code = 0; code < 16; code++) {
            int mulLatency = 1 + code / 4;
            int loadLatency = 1 + code % 4;
            BlockSchedOpt x = Look.block(mulLatency, loadLatency, 5, 2, 0, 0, 4, 3, 2, 2, 2, 1, 3, 3);
            x.schedule();
            x.run();
            due.same("cycles at " + mulLatency + ", " + loadLatency, Look.cycles(x, 3),
                    new int[] {0, loadLatency, loadLatency + mulLatency});
            due.same("latencies afterwards", Look.latencies(x), new int[] {mulLatency, loadLatency});
        }
    }

    // 'It finds the optimal schedule for a two-issue pipelined machine without interlocks that has one memory
    // port and one multiplier'
    private static void optimalSchedule(Due due) {
        BlockSchedOpt x = block();
        due.is("schedule()", x.schedule(), 6);
        due.same("its cycles", Look.cycles(x, 6), new int[] {0, 0, 2, 2, 5, 5});
        // Two of a kind in a cycle, two LOADs, two MULs.
        due.is("schedule() of two ADDs", Look.block(1, 1, 2, 0, 6, 6, 2, 1, 6, 6).schedule(), 1);
        due.is("schedule() of three ADDs", Look.block(1, 1, 2, 0, 6, 6, 2, 1, 6, 6, 2, 2, 6, 6).schedule(), 2);
        due.is("schedule() of two LOADs", Look.block(1, 1, 5, 0, 6, 6, 5, 1, 6, 6).schedule(), 2);
        due.is("schedule() of two MULs", Look.block(1, 1, 4, 0, 6, 6, 4, 1, 6, 6).schedule(), 2);
        due.is("schedule() of a LOAD and a MUL", Look.block(1, 1, 5, 0, 6, 6, 4, 1, 6, 6).schedule(), 1);
    }

    // 'Any schedule, whether found by the class or set cycle by cycle, can be examined for validity and run
    // cycle-exactly on the pipelined machine, where instructions read their operands when issued and write
    // their results when their latency expires.'
    private static void anySchedule(Due due) {
        BlockSchedOpt x = block();
        x.schedule();
        due.is("check() of the one found", x.check(), 6);
        due.is("run() of the one found", x.run(), 0);
        Look.setCycles(x, 1, 0, 3, 4, 6, 7);
        due.is("check() of one set", x.check(), 8);
        due.is("run() of one set", x.run(), 0);
        // The MUL reads r2 a cycle before the LOAD has written it.
        Look.setCycles(x, 0, 0, 1, 1, 4, 5);
        due.is("check() of one not valid", x.check(), BlockSchedOpt.CHK_DEP);
        due.is("run() of one not valid", x.run(), 1);
        due.is("m1 then", x.machValue(9), 0);
        due.is("r3 then", x.machValue(3), 3);
    }

    // 'The final registers and memory are compared with plain in-order execution of the block.'
    private static void comparedWithOrder(Due due) {
        BlockSchedOpt x = block();
        int[] inOrder = {0, 10, 7, 3, 0, 0, 0, 0, 7, 35, 0, 0, 0, 0, 0, 0};
        x.schedule();
        due.is("run() in good order", x.run(), 0);
        due.same("in order", Look.sequential(x), inOrder);
        due.same("on the machine", Look.machine(x), inOrder);
        Look.setCycles(x, 0, 0, 0, 0, 0, 0);
        // All read zeros: only r2 is as in order, and r3 takes the MUL's write, which comes last.
        due.is("run() with all in one cycle", x.run(), 3);
        due.same("in order still", Look.sequential(x), inOrder);
        due.same("with all in one cycle", Look.machine(x), new int[] {0, 0, 7, 0, 0, 0, 0, 0, 7, 0, 0, 0, 0, 0, 0, 0});
    }
}
