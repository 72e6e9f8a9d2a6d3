/** Promise 2: appending an instruction. */
public final class AddInstrTest {
    private static final int MIN = Integer.MIN_VALUE;
    private static final int MAX = Integer.MAX_VALUE;
    private static final int[] BAD_REGISTERS = {MIN, -1, 8, 16, MAX};
    private static final int[] ANY = {MIN, MIN + 1, -9, -1, 0, 7, 8, 32, 100, MAX};

    public static void main(String[] args) {
        Due due = new Due();
        fullBlock(due);
        badOpcode(due);
        badD(due);
        badA(due);
        badB(due);
        severalConditionsAtOnce(due);
        refusalsLeaveTheNextNumber(due);
        numbersGoUpToNine(due);
        newInstructionIsUnset(due);
        ldiTakesAnyA(due);
        ldiIgnoresB(due);
        memoryOpsTakeAnyB(due);
        edgesOfRegistersAreTaken(due);
        theRestIsUnchanged(due);
        due.end();
    }

    private static void refuse(Due due, int op, int d, int a, int b) {
        String call = "addInstr(" + op + ", " + d + ", " + a + ", " + b + ")";
        States.refused(due, call, -1, x -> x.addInstr(op, d, a, b));
    }

    // '1. n == MAX_INSTR (the block is full)'
    private static void fullBlock(Due due) {
        for (States.State state : States.ALL) {
            if (state.n() == BlockSchedOpt.MAX_INSTR) {
                for (int op = 1; op <= 6; op++) {
                    int right = op;
                    String call = "addInstr of op " + op + ", " + state.name();
                    due.is(call, state.make().addInstr(op, 0, 1, 2), -1);
                    States.alike(due, "after " + call,
                            States.after(state, x -> x.addInstr(right, 0, 1, 2)), state.made());
                }
            }
        }
    }

    // '2. op is not in 1..6'
    private static void badOpcode(Due due) {
        for (int op : new int[] {MIN, -1, 0, 7, 8, MAX}) {
            refuse(due, op, 0, 0, 0);
        }
    }

    // '3. d is not in 0..7'
    private static void badD(Due due) {
        for (int op = 1; op <= 6; op++) {
            for (int bad : BAD_REGISTERS) {
                refuse(due, op, bad, 0, 0);
            }
        }
    }

    // '4. op is ADD, SUB, MUL, LOAD or STORE and a is not in 0..7'
    private static void badA(Due due) {
        for (int op = 2; op <= 6; op++) {
            for (int bad : BAD_REGISTERS) {
                refuse(due, op, 0, bad, 0);
            }
        }
    }

    // '5. op is ADD, SUB or MUL and b is not in 0..7'
    private static void badB(Due due) {
        for (int op = 2; op <= 4; op++) {
            for (int bad : BAD_REGISTERS) {
                refuse(due, op, 0, 0, bad);
            }
        }
    }

    // 'addInstr(op, d, a, b) examines these conditions in order; the first that holds refuses the call with
    // -1 and changes nothing'
    private static void severalConditionsAtOnce(Due due) {
        refuse(due, 0, 8, 8, 8);
        refuse(due, 7, -1, 0, 0);
        refuse(due, 7, 0, -1, 0);
        refuse(due, 1, 8, 8, 8);
        refuse(due, 2, -1, 8, 0);
        refuse(due, 3, 0, MIN, MAX);
        refuse(due, 4, MAX, 0, MIN);
        refuse(due, 5, 8, 8, 8);
        refuse(due, 6, -1, -1, -1);
        refuse(due, MAX, MAX, MAX, MAX);
        refuse(due, MIN, MIN, MIN, MIN);
    }

    private static void refusalsLeaveTheNextNumber(Due due) {
        BlockSchedOpt x = new BlockSchedOpt(1, 1);
        for (int i = 0; i < 10; i++) {
            due.is("addInstr of op 0 before number " + i, x.addInstr(0, 0, 0, 0), -1);
            due.is("addInstr of d 8 before number " + i, x.addInstr(1, 8, 0, 0), -1);
            due.is("number " + i, x.addInstr(1, 0, 0, 0), i);
        }
        due.is("addInstr beyond ten", x.addInstr(1, 0, 0, 0), -1);
    }

    // 'the old n is answered (0 for the first instruction, up to 9)'
    private static void numbersGoUpToNine(Due due) {
        for (int op = 1; op <= 6; op++) {
            BlockSchedOpt x = new BlockSchedOpt(1, 1);
            for (int i = 0; i < 10; i++) {
                due.is("number " + i + " of op " + op, x.addInstr(op, i % 8, 1, 2), i);
            }
            due.is("number 10 of op " + op, x.addInstr(op, 0, 1, 2), -1);
            due.is("and again", x.addInstr(op, 0, 1, 2), -1);
            due.is("length of the ten", x.schedule() >= 5, true);
        }
    }

    // 'becomes number n with cycle -1 (unset)'
    private static void newInstructionIsUnset(Due due) {
        for (States.State state : States.ALL) {
            if (state.n() < BlockSchedOpt.MAX_INSTR) {
                BlockSchedOpt x = state.make();
                due.is("addInstr, " + state.name(), x.addInstr(6, 7, 7, 7), state.n());
                due.is("its cycle, " + state.name(), x.cycleOf(state.n()), -1);
                due.is("check() with it, " + state.name(), x.check(), BlockSchedOpt.CHK_UNSET);
            }
        }
    }

    // 'For LDI any int a is accepted'
    private static void ldiTakesAnyA(Due due) {
        for (int any : ANY) {
            BlockSchedOpt x = new BlockSchedOpt(2, 2);
            due.is("LDI with a " + any, x.addInstr(1, 0, any, 0), 0);
            x.schedule();
            x.run();
            due.is("what the LDI wrote in order", x.seqValue(0), any);
            due.is("what the LDI wrote on the machine", x.machValue(0), any);
        }
    }

    // 'and b is ignored, whatever its value'
    private static void ldiIgnoresB(Due due) {
        for (int any : ANY) {
            BlockSchedOpt x = new BlockSchedOpt(2, 2);
            due.is("LDI with b " + any, x.addInstr(1, 0, 5, any), 0);
            due.is("LDI with a and b " + any, x.addInstr(1, 1, any, any), 1);
            due.same("edges between them", new int[] {x.edgeKinds(0, 1), x.edgeDelay(0, 1)}, new int[] {0, -1});
            due.is("schedule() of them", x.schedule(), 1);
            x.run();
            due.is("what the first wrote", x.seqValue(0), 5);
            due.is("what the second wrote", x.machValue(1), any);
        }
    }

    // 'for LOAD and STORE any int b is accepted'
    private static void memoryOpsTakeAnyB(Due due) {
        for (int any : ANY) {
            BlockSchedOpt x = new BlockSchedOpt(2, 2);
            due.is("LOAD with b " + any, x.addInstr(5, 2, 7, any), 0);
            due.is("STORE with b " + any, x.addInstr(6, 3, 7, any), 1);
            int word = 8 + Math.floorMod(any, 8);
            x.setInit(word, 66);
            x.setInit(3, 77);
            x.schedule();
            x.run();
            due.is("what the LOAD read", x.seqValue(2), 66);
            due.is("what the STORE wrote", x.seqValue(word), 77);
        }
    }

    private static void edgesOfRegistersAreTaken(Due due) {
        for (int op = 1; op <= 6; op++) {
            for (int code = 0; code < 8; code++) {
                BlockSchedOpt x = new BlockSchedOpt(2, 2);
                int d = (code & 1) * 7;
                int a = (code >> 1 & 1) * 7;
                int b = (code >> 2 & 1) * 7;
                due.is("addInstr(" + op + ", " + d + ", " + a + ", " + b + ")", x.addInstr(op, d, a, b), 0);
            }
        }
    }

    // 'Cycles of earlier instructions, initial values and result values are unchanged.'
    private static void theRestIsUnchanged(Due due) {
        for (States.State state : States.ALL) {
            BlockSchedOpt x = state.make();
            BlockSchedOpt without = state.make();
            x.addInstr(1, 2, 7, 0);
            due.same("cycles after addInstr, " + state.name(),
                    Look.cycles(x, state.n()), Look.cycles(without, state.n()));
            due.same("sequential after addInstr, " + state.name(), Look.sequential(x), Look.sequential(without));
            due.same("machine after addInstr, " + state.name(), Look.machine(x), Look.machine(without));
            for (int j = 1; j < state.n(); j++) {
                due.is("edge to " + j + ", " + state.name(), x.edgeKinds(j - 1, j), without.edgeKinds(j - 1, j));
            }
            due.same("initial after addInstr, " + state.name(), Look.initial(x), Look.initial(without));
            due.same("latencies after addInstr, " + state.name(), Look.latencies(x), Look.latencies(without));
        }
        BlockSchedOpt x = Look.block(2, 2, 1, 0, 5, 0, 1, 1, 6, 0);
        x.setInit(4, 44);
        x.setInit(15, 55);
        Look.setCycles(x, 7, 63);
        x.addInstr(1, 2, 7, 0);
        due.same("cycles after addInstr", Look.cycles(x, 3), new int[] {7, 63, -1});
        x.setCycle(2, 0);
        x.run();
        due.same("values after addInstr", Look.machine(x),
                new int[] {5, 6, 7, 0, 44, 0, 0, 0, 0, 0, 0, 0, 0, 0, 0, 55});
    }
}
