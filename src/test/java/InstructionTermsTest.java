/** 'Terms used below': locations, instructions and latency. */
public final class InstructionTermsTest {
    private static final int MIN = Integer.MIN_VALUE;
    private static final int MAX = Integer.MAX_VALUE;
    private static final int[] ANY = {MIN, MIN + 1, -9, -8, -1, 0, 1, 7, 8, 100, MAX};

    public static void main(String[] args) {
        Due due = new Due();
        sixteenLocations(due);
        registersAreTheFirstEight(due);
        memoryWordsAreTheLastEight(due);
        threeValuesEach(due);
        numberedInTheOrderAdded(due);
        loadImmediate(due);
        addition(due);
        subtraction(due);
        multiplication(due);
        load(due);
        store(due);
        registersRead(due);
        registersWritten(due);
        everyMemoryOpTouchesAllOfMemory(due);
        latencyOfEachOpcode(due);
        due.end();
    }

    /** Tells the locations apart, and as an address leads from each register to another word. */
    private static int start(int loc) {
        return 100 + 11 * loc;
    }

    private static int[] setStart(BlockSchedOpt x) {
        int[] values = new int[16];
        for (int loc = 0; loc < 16; loc++) {
            values[loc] = start(loc);
            x.setInit(loc, values[loc]);
        }
        return values;
    }

    // 'There are 16 int locations'
    private static void sixteenLocations(Due due) {
        BlockSchedOpt x = new BlockSchedOpt(1, 1);
        for (int loc = -40; loc <= 40; loc++) {
            due.is("setInit(" + loc + ", 1)", x.setInit(loc, 1), loc >= 0 && loc < 16);
        }
        for (int value : new int[] {MIN, -1, 65536, MAX}) {
            int[] want = new int[16];
            for (int loc = 0; loc < 16; loc++) {
                want[loc] = value ^ loc;
                x.setInit(loc, want[loc]);
            }
            due.same("an int in each location", Look.initial(x), want);
        }
    }

    // '0..7 are registers r0..r7'
    private static void registersAreTheFirstEight(Due due) {
        for (int r = 0; r < 8; r++) {
            alone(due, r, -5, 1, r, -5, 0);
            int other = (r + 1) % 8;
            alone(due, other, start(r) + start(r), 2, other, r, r);
        }
    }

    // '8..15 are memory words m0..m7 (location 8+k is m[k])'
    private static void memoryWordsAreTheLastEight(Due due) {
        for (int k = 0; k < 8; k++) {
            // This offset takes the base away again.
            int offset = k - start(3);
            alone(due, 1, start(8 + k), 5, 1, 3, offset);
            alone(due, 8 + k, start(1), 6, 1, 3, offset);
        }
    }

    // 'Each location has an initial value, a sequential result value and a machine result value.'
    private static void threeValuesEach(Due due) {
        for (int loc = 0; loc < 16; loc++) {
            // Written twice, on the machine in the other order; r6 and r7 hold what is stored.
            BlockSchedOpt x = loc < 8
                    ? Look.block(1, 1, 1, loc, 5, 0, 1, loc, 6, 0)
                    : Look.block(1, 1, 6, 6, 0, loc, 6, 7, 0, loc);
            x.setInit(6, 5);
            x.setInit(7, 6);
            x.setInit(loc, -4);
            Look.setCycles(x, 1, 0);
            due.is("run() over " + loc, x.run(), 1);
            due.is("seqValue(" + loc + ")", x.seqValue(loc), 6);
            due.is("machValue(" + loc + ")", x.machValue(loc), 5);
            due.is("initial value of " + loc, Look.initial(x)[loc], -4);
        }
    }

    // 'A block holds n = 0..MAX_INSTR (10) instructions, numbered 0, 1, 2, .. in the order added. Each has an
    // opcode and three int fields d, a, b'
    private static void numberedInTheOrderAdded(Due due) {
        for (int n = 0; n <= 10; n++) {
            BlockSchedOpt x = new BlockSchedOpt(1, 1);
            for (int i = 0; i < n; i++) {
                due.is("number of LDI " + i, x.addInstr(1, 0, 50 + i, 0), i);
            }
            due.is("criticalPath() of " + n + " writes to r0", x.criticalPath(), n);
            for (int last = 0; last < n; last++) {
                for (int i = 0; i < n; i++) {
                    x.setCycle(i, i == last ? 63 : i);
                }
                x.run();
                due.is("r0 in order, of " + n, x.seqValue(0), 49 + n);
                due.is("r0 when number " + last + " of " + n + " comes last", x.machValue(0), 50 + last);
            }
        }
    }

    /** One instruction gives the location the value and leaves all others, in order and on the machine. */
    private static void alone(Due due, int loc, int value, int op, int d, int a, int b) {
        BlockSchedOpt x = Look.block(3, 2, op, d, a, b);
        int[] want = setStart(x);
        want[loc] = value;
        x.setCycle(0, 0);
        String what = op + ", " + d + ", " + a + ", " + b;
        due.is("run() of " + what, x.run(), 0);
        due.same(what + " in order", Look.sequential(x), want);
        due.same(what + " on the machine", Look.machine(x), want);
    }

    // 'r[d] = a; reads no register.', 'For LDI, a is an immediate (any int) and b is ignored.'
    private static void loadImmediate(Due due) {
        for (int d = 0; d < 8; d++) {
            for (int a : ANY) {
                for (int b : ANY) {
                    alone(due, d, a, BlockSchedOpt.OP_LDI, d, a, b);
                }
            }
        }
    }

    // 'r[d] = r[a] + r[b]; reads r[a], r[b].'
    private static void addition(Due due) {
        for (int code = 0; code < 512; code++) {
            int a = code / 8 % 8;
            int b = code % 8;
            alone(due, code / 64, start(a) + start(b), BlockSchedOpt.OP_ADD, code / 64, a, b);
        }
    }

    // 'r[d] = r[a] - r[b]; reads r[a], r[b].'
    private static void subtraction(Due due) {
        for (int code = 0; code < 512; code++) {
            int a = code / 8 % 8;
            int b = code % 8;
            alone(due, code / 64, start(a) - start(b), BlockSchedOpt.OP_SUB, code / 64, a, b);
        }
    }

    // 'r[d] = r[a] * r[b]; reads r[a], r[b].'
    private static void multiplication(Due due) {
        for (int code = 0; code < 512; code++) {
            int a = code / 8 % 8;
            int b = code % 8;
            alone(due, code / 64, start(a) * start(b), BlockSchedOpt.OP_MUL, code / 64, a, b);
        }
    }

    /** The word at a base and an offset, found without the & of the document. */
    private static int word(int base, int offset) {
        return 8 + Math.floorMod((int) ((long) base + offset), 8);
    }

    // 'r[d] = m[(r[a] + b) & 7]; reads r[a] and memory.', 'For LOAD and STORE, b is an offset (any int).'
    private static void load(Due due) {
        for (int code = 0; code < 64; code++) {
            for (int b : ANY) {
                int from = word(start(code % 8), b);
                alone(due, code / 8, start(from), BlockSchedOpt.OP_LOAD, code / 8, code % 8, b);
            }
        }
    }

    // 'm[(r[a] + b) & 7] = r[d]; reads r[a], r[d]; writes memory.', 'For LOAD and STORE, b is an offset (any int).'
    private static void store(Due due) {
        for (int code = 0; code < 64; code++) {
            for (int b : ANY) {
                int to = word(start(code % 8), b);
                alone(due, to, start(code / 8), BlockSchedOpt.OP_STORE, code / 8, code % 8, b);
            }
        }
    }

    // 'reads no register', 'reads r[a], r[b]', 'reads r[a] and memory', 'reads r[a], r[d]'
    private static boolean reads(int r, int op, int d, int a, int b) {
        return switch (op) {
            case BlockSchedOpt.OP_LDI -> false;
            case BlockSchedOpt.OP_LOAD -> r == a;
            case BlockSchedOpt.OP_STORE -> r == a || r == d;
            default -> r == a || r == b;
        };
    }

    // The same sentences: after a write to a register comes a true edge to its readers alone, and
    // before one an anti edge from them alone.
    private static void registersRead(Due due) {
        for (int code = 0; code < 6 * 512; code++) {
            int op = 1 + code / 512;
            int d = code / 64 % 8;
            int a = code / 8 % 8;
            int b = code % 8;
            for (int r = 0; r < 8; r++) {
                BlockSchedOpt x = Look.block(2, 3, 1, r, 0, 0, op, d, a, b, 1, r, 0, 0);
                String what = op + ", " + d + ", " + a + ", " + b + " reads r" + r;
                boolean read = reads(r, op, d, a, b);
                due.is(what + ", written before", (x.edgeKinds(0, 1) & BlockSchedOpt.EDGE_TRUE) != 0, read);
                due.is(what + ", written after", (x.edgeKinds(1, 2) & BlockSchedOpt.EDGE_ANTI) != 0, read);
            }
        }
    }

    // 'LDI, ADD, SUB, MUL and LOAD write register r[d]; STORE writes no register.'
    private static void registersWritten(Due due) {
        for (int op = 1; op <= 6; op++) {
            for (int d = 0; d < 8; d++) {
                for (int r = 0; r < 8; r++) {
                    BlockSchedOpt x = Look.block(2, 3, 1, r, 0, 0, op, d, 0, 0, 1, r, 0, 0);
                    String what = "op " + op + " with d " + d + " writes r" + r;
                    boolean writes = op != BlockSchedOpt.OP_STORE && d == r;
                    due.is(what + ", before it", (x.edgeKinds(0, 1) & BlockSchedOpt.EDGE_OUTPUT) != 0, writes);
                    due.is(what + ", after it", (x.edgeKinds(1, 2) & BlockSchedOpt.EDGE_OUTPUT) != 0, writes);
                }
            }
        }
    }

    // 'LOAD and STORE are the memory ops; every memory op counts as touching all of memory.'
    private static void everyMemoryOpTouchesAllOfMemory(Due due) {
        for (int one = 0; one < 8; one++) {
            for (int other = 0; other < 8; other++) {
                String words = " of words " + one + ", " + other;
                BlockSchedOpt x = Look.block(1, 2, 6, 1, 0, one, 5, 2, 0, other, 6, 3, 0, one);
                due.is("STORE to LOAD" + words, x.edgeKinds(0, 1), BlockSchedOpt.EDGE_TRUE);
                due.is("LOAD to STORE" + words, x.edgeKinds(1, 2), BlockSchedOpt.EDGE_ANTI);
                due.is("STORE to STORE" + words, x.edgeKinds(0, 2), BlockSchedOpt.EDGE_OUTPUT);
                BlockSchedOpt loads = Look.block(1, 2, 5, 2, 0, one, 5, 3, 0, other);
                Look.setCycles(loads, 4, 4);
                due.is("check() of two LOADs" + words, loads.check(), BlockSchedOpt.CHK_MEM);
            }
        }
        for (int op = 1; op <= 6; op++) {
            BlockSchedOpt x = Look.block(1, 2, 5, 2, 0, 0, op, 3, 1, 1);
            Look.setCycles(x, 4, 4);
            boolean memory = op == BlockSchedOpt.OP_LOAD || op == BlockSchedOpt.OP_STORE;
            due.is("check() of a LOAD beside op " + op, x.check() == BlockSchedOpt.CHK_MEM, memory);
        }
    }

    // 'lat(i) is 1 for LDI, ADD, SUB and STORE; mulLatency for MUL; loadLatency for LOAD.'
    private static void latencyOfEachOpcode(Due due) {
        for (int code = 0; code < 16; code++) {
            int mulLatency = 1 + code / 4;
            int loadLatency = 1 + code % 4;
            int[] latency = {0, 1, 1, 1, mulLatency, loadLatency, 1};
            for (int op = 1; op <= 6; op++) {
                BlockSchedOpt x = Look.block(mulLatency, loadLatency, op, 2, 1, 1);
                String what = " of op " + op + " at " + mulLatency + ", " + loadLatency;
                due.is("criticalPath()" + what, x.criticalPath(), latency[op]);
                due.is("schedule()" + what, x.schedule(), latency[op]);
                x.setCycle(0, 63);
                due.is("check() at 63" + what, x.check(), 63 + latency[op]);
                whenItsWriteShows(due, what, x, latency[op], op == BlockSchedOpt.OP_STORE);
            }
        }
    }

    /** The first cycle at which a reader sees the write of number 0, issued at 10. */
    private static void whenItsWriteShows(Due due, String what, BlockSchedOpt x, int latency, boolean stored) {
        int[] start = setStart(x);
        int before = stored ? start[word(start[1], 1)] : start[2] + start[2];
        Look.add(x, stored ? 5 : 2, 7, stored ? 1 : 2, stored ? 1 : 2);
        for (int wait = 0; wait <= 5; wait++) {
            Look.setCycles(x, 10, 10 + wait);
            x.run();
            due.is("a read " + wait + " after" + what + " sees the old", x.machValue(7) == before, wait < latency);
            due.is("or what is read in order", x.machValue(7) == x.seqValue(7), wait >= latency);
        }
    }
}
