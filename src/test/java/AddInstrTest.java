/** Promise 2: appending an instruction. */
public final class AddInstrTest {
    private static final int MIN = Integer.MIN_VALUE;
    private static final int MAX = Integer.MAX_VALUE;

    public static void main(String[] args) {
        Due due = new Due();
        wrongInputsAreRefused(due);
        freeFieldsTakeAnyInt(due);
        edgesOfRegistersAreTaken(due);
        numbersGoUpToNine(due);
        theRestIsUnchanged(due);
        due.end();
    }

    private static void refuse(Due due, BlockSchedOpt x, int op, int d, int a, int b) {
        int[] before = Look.everything(x);
        String call = "addInstr(" + op + ", " + d + ", " + a + ", " + b + ")";
        due.is(call, x.addInstr(op, d, a, b), -1);
        due.same("after " + call, Look.everything(x), before);
    }

    private static void wrongInputsAreRefused(Due due) {
        BlockSchedOpt x = Look.block(2, 2, 1, 0, 5, 0);
        x.setCycle(0, 3);
        x.run();
        int[] badRegisters = {MIN, -1, 8, 16, MAX};
        for (int op : new int[] {MIN, -1, 0, 7, 8, MAX}) {
            refuse(due, x, op, 0, 0, 0);
        }
        for (int bad : badRegisters) {
            for (int op = 1; op <= 6; op++) {
                refuse(due, x, op, bad, 0, 0);
            }
            for (int op = 2; op <= 6; op++) {
                refuse(due, x, op, 0, bad, 0);
            }
            for (int op = 2; op <= 4; op++) {
                refuse(due, x, op, 0, 0, bad);
            }
        }
        due.is("the next number after refusals", x.addInstr(1, 0, 0, 0), 1);
    }

    private static void freeFieldsTakeAnyInt(Due due) {
        for (int any : new int[] {MIN, -9, -1, 8, 100, MAX}) {
            BlockSchedOpt x = new BlockSchedOpt(2, 2);
            due.is("LDI with a " + any, x.addInstr(1, 0, any, 0), 0);
            due.is("LDI with b " + any, x.addInstr(1, 1, 0, any), 1);
            due.is("LOAD with b " + any, x.addInstr(5, 2, 7, any), 2);
            due.is("STORE with b " + any, x.addInstr(6, 3, 7, any), 3);
            x.schedule();
            x.run();
            due.is("LDI writes a", x.seqValue(0), any);
            due.is("LDI ignores b", x.seqValue(1), 0);
        }
    }

    private static void edgesOfRegistersAreTaken(Due due) {
        for (int op = 1; op <= 6; op++) {
            BlockSchedOpt x = new BlockSchedOpt(2, 2);
            due.is("op " + op + " with 0s", x.addInstr(op, 0, 0, 0), 0);
            due.is("op " + op + " with 7s", x.addInstr(op, 7, 7, 7), 1);
        }
    }

    private static void numbersGoUpToNine(Due due) {
        BlockSchedOpt x = new BlockSchedOpt(1, 1);
        for (int i = 0; i < 10; i++) {
            due.is("number " + i, x.addInstr(1 + i % 6, i % 8, 1, 2), i);
            due.is("new cycle " + i, x.cycleOf(i), -1);
        }
        refuse(due, x, 1, 0, 0, 0);
        refuse(due, x, 0, 9, 9, 9);
        x.schedule();
        refuse(due, x, 2, 1, 1, 1);
    }

    private static void theRestIsUnchanged(Due due) {
        BlockSchedOpt x = Look.block(2, 2, 1, 0, 5, 0, 1, 1, 6, 0);
        x.setInit(4, 44);
        Look.setCycles(x, 7, 63);
        x.run();
        int[] values = Look.machine(x);
        x.addInstr(1, 2, 7, 0);
        due.same("cycles after addInstr", Look.cycles(x, 3), new int[] {7, 63, -1});
        due.same("values after addInstr", Look.machine(x), values);
        due.is("run() with the new one unset", x.run(), -1);
        x.setCycle(2, 0);
        x.run();
        due.is("initial value after addInstr", x.seqValue(4), 44);
        x.clear();
        Look.add(x, 1, 3, 1, 0);
        due.is("cycle of a number used before", x.cycleOf(0), -1);
    }
}
