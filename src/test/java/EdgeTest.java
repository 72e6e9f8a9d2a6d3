/** Promise 10: dependence edges of a pair. */
public final class EdgeTest {
    private static final int[] INDICES = {Integer.MIN_VALUE, -1, 0, 1, 2, 3, 9, 10, 11, Integer.MAX_VALUE};

    public static void main(String[] args) {
        Due due = new Due();
        trueKind(due);
        antiKind(due);
        outputKind(due);
        memoryKinds(due);
        fieldsThatAreNoRegisters(due);
        trueAndAntiDelays(due);
        outputDelays(due);
        severalKinds(due);
        everySetOfKinds(due);
        noKindsWithoutAPair(due);
        noDelayWithoutAnEdge(due);
        noPairInAnyState(due);
        pairsUpToTheLast(due);
        cyclesAndValuesDoNotMatter(due);
        everyPairOfInstructions(due);
        due.end();
    }

    private static void expect(Due due, String what, int kinds, int delay, int... fields) {
        BlockSchedOpt x = Look.block(3, 4, fields);
        due.is("edgeKinds of " + what, x.edgeKinds(0, 1), kinds);
        due.is("edgeDelay of " + what, x.edgeDelay(0, 1), delay);
        due.is("edgeKinds back of " + what, x.edgeKinds(1, 0), 0);
        due.is("edgeDelay back of " + what, x.edgeDelay(1, 0), -1);
    }

    // 'j reads a register that i writes, or i is STORE and j is LOAD. Required distance: lat(i).'
    private static void trueKind(Due due) {
        expect(due, "nothing shared", 0, -1, 2, 0, 1, 2, 2, 3, 1, 2);
        expect(due, "ADD read as a", 1, 1, 2, 0, 1, 1, 2, 3, 0, 2);
        expect(due, "LDI read as b", 1, 1, 1, 0, 1, 1, 3, 3, 2, 0);
        expect(due, "MUL read", 1, 3, 4, 0, 1, 1, 4, 3, 2, 0);
        expect(due, "LOAD read as an address", 1, 4, 5, 0, 1, 1, 5, 3, 0, 0);
        expect(due, "LOAD stored", 3, 4, 5, 0, 1, 1, 6, 0, 2, 0);
        expect(due, "SUB stored at", 1, 1, 3, 0, 1, 1, 6, 2, 0, 0);
        expect(due, "STORE before a LOAD", 1, 1, 6, 0, 7, 0, 5, 1, 7, 0);
    }

    // 'j writes a register that i reads, or i is LOAD and j is STORE. Required distance: 0.'
    private static void antiKind(Due due) {
        expect(due, "a overwritten", 2, 0, 2, 0, 1, 2, 1, 1, 0, 0);
        expect(due, "b overwritten", 2, 0, 4, 0, 1, 2, 5, 2, 3, 0);
        expect(due, "stored value overwritten", 2, 0, 6, 4, 1, 0, 1, 4, 0, 0);
        expect(due, "stored address overwritten", 2, 0, 6, 4, 1, 0, 1, 1, 0, 0);
        expect(due, "loaded address overwritten", 2, 0, 5, 4, 1, 0, 2, 1, 0, 0);
        expect(due, "LOAD before a STORE", 2, 0, 5, 0, 7, 0, 6, 1, 7, 0);
    }

    // 'i and j write the same register, or both are STORE. Required distance: max(1, lat(i) - lat(j) +
    // 1).'
    private static void outputKind(Due due) {
        expect(due, "two LDIs of one register", 4, 1, 1, 4, 1, 0, 1, 4, 1, 0);
        expect(due, "MUL before an LDI", 4, 3, 4, 4, 1, 1, 1, 4, 1, 0);
        expect(due, "LDI before a MUL", 4, 1, 1, 4, 1, 0, 4, 4, 1, 1);
        expect(due, "LOAD before a MUL", 4, 2, 5, 4, 1, 0, 4, 4, 1, 1);
        expect(due, "STORE before a STORE", 4, 1, 6, 0, 7, 0, 6, 1, 7, 0);
    }

    private static void memoryKinds(Due due) {
        expect(due, "two LOADs", 0, -1, 5, 0, 7, 0, 5, 1, 7, 0);
        expect(due, "LOAD and STORE", 2, 0, 5, 0, 7, 0, 6, 1, 7, 1);
        expect(due, "STORE and LOAD", 1, 1, 6, 0, 7, 0, 5, 1, 7, 1);
        expect(due, "two STOREs", 4, 1, 6, 0, 7, 0, 6, 1, 7, 1);
        expect(due, "STORE and a LOAD over its value", 3, 1, 6, 0, 7, 0, 5, 0, 7, 1);
    }

    private static void fieldsThatAreNoRegisters(Due due) {
        expect(due, "an immediate like a register written", 0, -1, 1, 3, 0, 0, 1, 4, 3, 3);
        expect(due, "an immediate like a register overwritten", 0, -1, 1, 3, 5, 6, 2, 5, 0, 0);
        expect(due, "an ignored b overwritten", 0, -1, 1, 3, 5, 6, 2, 6, 0, 0);
        expect(due, "a LOAD's offset like a register", 0, -1, 1, 3, 0, 0, 5, 4, 0, 3);
        expect(due, "a STORE's offset like a register", 0, -1, 1, 3, 0, 0, 6, 4, 0, 3);
        expect(due, "a STORE's d is not written", 0, -1, 6, 3, 0, 0, 2, 4, 3, 3);
        // Numbers that are like register 3 in their low bits alone.
        for (int like : new int[] {3, 11, 35, 67, 3 - 32, 3 - 8, Integer.MIN_VALUE + 3}) {
            expect(due, "immediate " + like, 0, -1, 1, 3, 0, 0, 1, 4, like, like);
            expect(due, "immediate " + like + " first", 0, -1, 1, 4, like, like, 1, 3, 0, 0);
            expect(due, "LOAD's offset " + like, 0, -1, 1, 3, 0, 0, 5, 4, 0, like);
            expect(due, "STORE's offset " + like, 0, -1, 1, 3, 0, 0, 6, 4, 0, like);
            expect(due, "LOAD's offset " + like + " first", 0, -1, 5, 4, 0, like, 1, 3, 0, 0);
            expect(due, "STORE's offset " + like + " first", 0, -1, 6, 4, 0, like, 1, 3, 0, 0);
        }
    }

    // 'Required distance: lat(i).', 'Required distance: 0.'
    private static void trueAndAntiDelays(Due due) {
        for (int code = 0; code < 16; code++) {
            int mulLatency = 1 + code / 4;
            int loadLatency = 1 + code % 4;
            int[] latency = {0, 1, 1, 1, mulLatency, loadLatency, 1};
            for (int op = 1; op <= 6; op++) {
                String at = " of op " + op + " at latencies " + mulLatency + ", " + loadLatency;
                // Register 0 is what it writes, register 1 what it reads; a LOAD reads what a STORE wrote.
                BlockSchedOpt reader = Look.block(mulLatency, loadLatency, op, 0, 1, 1, op == 6 ? 5 : 2, 2, 0, 0);
                due.is("true delay" + at, reader.edgeDelay(0, 1), latency[op]);
                for (int second = 1; second <= 5; second++) {
                    BlockSchedOpt writer = Look.block(mulLatency, loadLatency, op, 0, 1, 1, second, 1, 7, 7);
                    boolean storeAndLoad = op == 6 && second == 5;
                    due.is("anti delay before op " + second + at, writer.edgeDelay(0, 1),
                            op == 1 ? -1 : storeAndLoad ? 1 : 0);
                }
            }
        }
    }

    // 'Required distance: max(1, lat(i) - lat(j) + 1).'
    private static void outputDelays(Due due) {
        int[] latency = {0, 1, 1, 1, 3, 4};
        for (int mulLatency = 1; mulLatency <= 4; mulLatency++) {
            for (int loadLatency = 1; loadLatency <= 4; loadLatency++) {
                String at = " at latencies " + mulLatency + ", " + loadLatency;
                BlockSchedOpt x = Look.block(mulLatency, loadLatency, 4, 0, 6, 6, 5, 0, 7, 7, 4, 0, 6, 6, 1, 0, 7, 7);
                due.is("edgeDelay of MUL and LOAD" + at, x.edgeDelay(0, 1), Math.max(1, mulLatency - loadLatency + 1));
                due.is("edgeDelay of LOAD and MUL" + at, x.edgeDelay(1, 2), Math.max(1, loadLatency - mulLatency + 1));
                due.is("edgeDelay of MUL and MUL" + at, x.edgeDelay(0, 2), 1);
                due.is("edgeDelay of MUL and LDI" + at, x.edgeDelay(2, 3), mulLatency);
                due.is("edgeDelay of LOAD and LDI" + at, x.edgeDelay(1, 3), loadLatency);
            }
        }
        for (int first = 1; first <= 5; first++) {
            for (int second = 1; second <= 5; second++) {
                int delay = Math.max(1, latency[first] - latency[second] + 1);
                expect(due, "op " + first + " and op " + second + " writing r0", 4, delay,
                        first, 0, 6, 6, second, 0, 7, 7);
            }
        }
    }

    // 'A pair may carry several kinds.', 'the sum of EDGE_TRUE, EDGE_ANTI, EDGE_OUTPUT over the kinds present
    // (0..7)'
    private static void severalKinds(Due due) {
        expect(due, "all three", 7, 3, 4, 0, 0, 0, 4, 0, 0, 0);
        expect(due, "true and output", 5, 4, 5, 0, 1, 0, 2, 0, 0, 0);
        expect(due, "anti and output", 6, 4, 5, 0, 0, 0, 1, 0, 0, 0);
        expect(due, "true and anti", 3, 3, 4, 0, 1, 1, 2, 1, 0, 0);
    }

    // 'edgeKinds(i, j) answers the bit set of the dependence kinds of pair (i, j)': all eight sets occur
    private static void everySetOfKinds(Due due) {
        int[][] pairs = {{2, 0, 1, 1, 2, 2, 3, 3}, {2, 0, 1, 1, 2, 2, 0, 3}, {2, 0, 1, 1, 2, 1, 3, 3},
            {2, 0, 1, 1, 2, 1, 0, 3}, {2, 0, 1, 1, 2, 0, 3, 3}, {2, 0, 1, 1, 2, 0, 0, 3}, {2, 0, 0, 1, 2, 0, 3, 3},
            {2, 0, 0, 1, 2, 0, 0, 3}};
        for (int kinds = 0; kinds < 8; kinds++) {
            due.is("edgeKinds of set " + kinds, Look.block(1, 1, pairs[kinds]).edgeKinds(0, 1), kinds);
        }
    }

    // 'It answers 0 unless 0 <= i < j < n; in particular 0 for i >= j, for negative indices and for
    // indices at or beyond n.'
    private static void noKindsWithoutAPair(Due due) {
        due.is("edgeKinds(0, 1) while empty", new BlockSchedOpt(2, 2).edgeKinds(0, 1), 0);
        BlockSchedOpt x = Look.block(2, 2, 2, 0, 0, 0, 2, 0, 0, 0, 2, 0, 0, 0);
        for (int i : INDICES) {
            for (int j : INDICES) {
                boolean pair = i >= 0 && i < j && j < 3;
                due.is("edgeKinds(" + i + ", " + j + ")", x.edgeKinds(i, j), pair ? 7 : 0);
            }
        }
    }

    // 'edgeDelay(i, j) answers delay(i,j) if 0 <= i < j < n and the pair has an edge (edgeKinds(i, j) !=
    // 0); otherwise -1.'
    private static void noDelayWithoutAnEdge(Due due) {
        due.is("edgeDelay(0, 1) while empty", new BlockSchedOpt(2, 2).edgeDelay(0, 1), -1);
        BlockSchedOpt x = Look.block(2, 2, 2, 0, 0, 0, 2, 0, 0, 0, 2, 0, 0, 0);
        // Each alone: the pairs are there, the edges are not.
        BlockSchedOpt apart = Look.block(2, 2, 1, 0, 0, 0, 1, 1, 0, 0, 1, 2, 0, 0);
        for (int i : INDICES) {
            for (int j : INDICES) {
                boolean pair = i >= 0 && i < j && j < 3;
                due.is("edgeDelay(" + i + ", " + j + ")", x.edgeDelay(i, j), pair ? 1 : -1);
                due.is("edgeDelay(" + i + ", " + j + ") without an edge", apart.edgeDelay(i, j), -1);
            }
        }
        BlockSchedOpt anti = Look.block(2, 2, 2, 0, 1, 1, 1, 1, 0, 0);
        due.is("edgeDelay of an edge that asks no distance", anti.edgeDelay(0, 1), 0);
    }

    private static void noPairInAnyState(Due due) {
        int[] indices = {Integer.MIN_VALUE, -1, 0, 9, 10, Integer.MAX_VALUE};
        for (int i : indices) {
            for (int j : indices) {
                if (i < 0 || i >= j || j >= 10) {
                    States.refused(due, "edgeKinds(" + i + ", " + j + ")", 0, x -> x.edgeKinds(i, j));
                    States.refused(due, "edgeDelay(" + i + ", " + j + ")", -1, x -> x.edgeDelay(i, j));
                }
            }
        }
        for (States.State state : States.ALL) {
            BlockSchedOpt x = state.make();
            for (int i = -1; i <= 10; i++) {
                due.is("edgeKinds(" + i + ", n), " + state.name(), x.edgeKinds(i, state.n()), 0);
                due.is("edgeDelay(" + i + ", n), " + state.name(), x.edgeDelay(i, state.n()), -1);
                due.is("edgeKinds(n, " + i + "), " + state.name(), x.edgeKinds(state.n(), i), 0);
                due.is("edgeDelay(n, " + i + "), " + state.name(), x.edgeDelay(state.n(), i), -1);
                due.is("edgeKinds(" + i + ", " + i + "), " + state.name(), x.edgeKinds(i, i), 0);
                due.is("edgeDelay(" + i + ", " + i + "), " + state.name(), x.edgeDelay(i, i), -1);
            }
        }
    }

    // 'For every pair i < j (no edge ever goes from j back to i)': for each n, also those that another
    // write stands between; in a full block all 45.
    private static void pairsUpToTheLast(Due due) {
        BlockSchedOpt x = new BlockSchedOpt(2, 2);
        for (int n = 1; n <= 10; n++) {
            x.addInstr(2, 0, 0, 0);
            for (int i = -1; i <= 11; i++) {
                for (int j = -1; j <= 11; j++) {
                    boolean pair = i >= 0 && i < j && j < n;
                    due.is("edgeKinds(" + i + ", " + j + ") of " + n, x.edgeKinds(i, j), pair ? 7 : 0);
                    due.is("edgeDelay(" + i + ", " + j + ") of " + n, x.edgeDelay(i, j), pair ? 1 : -1);
                }
            }
        }
        x.clear();
        due.is("edgeKinds(0, 1) after clear()", x.edgeKinds(0, 1), 0);
        due.is("edgeDelay(0, 1) after clear()", x.edgeDelay(0, 1), -1);
    }

    // 'Both change nothing and do not depend on cycles or values.', 'Dependences depend only on the
    // instructions and the two latencies, never on cycles or values.'
    private static void cyclesAndValuesDoNotMatter(Due due) {
        BlockSchedOpt x = Look.block(2, 3, 5, 0, 1, 0, 4, 2, 0, 0, 6, 2, 1, 0);
        int[] kinds = {x.edgeKinds(0, 1), x.edgeKinds(0, 2), x.edgeKinds(1, 2)};
        due.same("kinds", kinds, new int[] {1, 2, 1});
        x.setInit(1, 6);
        Look.setCycles(x, 3, 2, 1);
        x.run();
        x.schedule();
        due.same("kinds later", new int[] {x.edgeKinds(0, 1), x.edgeKinds(0, 2), x.edgeKinds(1, 2)}, kinds);
        int[] before = Look.everything(x);
        x.edgeKinds(0, 1);
        x.edgeDelay(0, 1);
        due.same("after edgeKinds and edgeDelay", Look.everything(x), before);
        States.unchanged(due, "edgeKinds(0, 1)", state -> state.make().edgeKinds(0, 1), y -> y.edgeKinds(0, 1));
        States.unchanged(due, "edgeDelay(0, 1)", state -> state.make().edgeDelay(0, 1), y -> y.edgeDelay(0, 1));
    }

    // 'If it carries at least one, it has an edge i->j whose delay(i,j) is the greatest required distance
    // among its kinds.'
    private static void everyPairOfInstructions(Due due) {
        for (int code = 0; code < 16; code++) {
            everyPair(due, 1 + code / 4, 1 + code % 4);
        }
    }

    private static void everyPair(Due due, int mulLatency, int loadLatency) {
        int kindsOfInstr = 6 * 27;
        for (int p = 0; p < kindsOfInstr; p++) {
            for (int q = 0; q < kindsOfInstr; q++) {
                BlockSchedOpt x = new BlockSchedOpt(mulLatency, loadLatency);
                PlainModel model = new PlainModel(mulLatency, loadLatency);
                for (int code : new int[] {p, q}) {
                    int op = 1 + code / 27;
                    int d = code / 9 % 3;
                    int a = code / 3 % 3;
                    int b = code % 3;
                    x.addInstr(op, d, a, b);
                    model.addInstr(op, d, a, b);
                }
                String pair = p + ", " + q + " at latencies " + mulLatency + ", " + loadLatency;
                due.is("edgeKinds of pair " + pair, x.edgeKinds(0, 1), model.edgeKinds(0, 1));
                due.is("edgeDelay of pair " + pair, x.edgeDelay(0, 1), model.edgeDelay(0, 1));
            }
        }
    }
}
