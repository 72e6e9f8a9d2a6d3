/** Promise 5: setting and reading a cycle. */
public final class CycleTest {
    private static final int MIN = Integer.MIN_VALUE;
    private static final int MAX = Integer.MAX_VALUE;

    public static void main(String[] args) {
        Due due = new Due();
        everyCycleCanBeSet(due);
        anyCombinationCanBeSet(due);
        minusOneUnsets(due);
        numbersOutsideAreRefused(due);
        cyclesOutsideAreRefused(due);
        everyCallIsRefusedWhileEmpty(due);
        aRefusedCycleDoesNotWait(due);
        onlyOneCycleChanges(due);
        readingInside(due);
        readingOutside(due);
        due.end();
    }

    // 'setCycle(i, c) sets c(i) = c and answers true.'
    private static void everyCycleCanBeSet(Due due) {
        for (States.State state : States.ALL) {
            BlockSchedOpt x = state.make();
            for (int i = 0; i < state.n(); i++) {
                for (int c = 63; c >= -1; c--) {
                    due.is("setCycle(" + i + ", " + c + "), " + state.name(), x.setCycle(i, c), true);
                    due.is("cycleOf(" + i + "), " + state.name(), x.cycleOf(i), c);
                }
            }
        }
    }

    // 'Any combination of cycles may be set, valid or not.'
    private static void anyCombinationCanBeSet(Due due) {
        BlockSchedOpt x = Look.block(2, 2, 1, 0, 1, 0, 2, 1, 0, 0, 6, 1, 0, 0);
        int[][] combinations = {{9, 9, 9}, {63, 62, 0}, {-1, 63, -1}, {0, 1, 2}, {0, 0, -1}};
        for (int[] cycles : combinations) {
            for (int i = 0; i < 3; i++) {
                due.is("setCycle(" + i + ", " + cycles[i] + ")", x.setCycle(i, cycles[i]), true);
            }
            due.same("cycles set", Look.cycles(x, 3), cycles);
        }
    }

    // 'c = -1 makes instruction i unset.'
    private static void minusOneUnsets(Due due) {
        for (int i = 0; i < 10; i++) {
            BlockSchedOpt x = new BlockSchedOpt(1, 1);
            for (int k = 0; k < 10; k++) {
                x.addInstr(1, 0, k, 0);
                x.setCycle(k, 6 * k);
            }
            due.is("check() with all set", x.check(), 55);
            due.is("setCycle(" + i + ", -1)", x.setCycle(i, -1), true);
            due.is("cycleOf(" + i + ")", x.cycleOf(i), -1);
            due.is("check() with " + i + " unset", x.check(), BlockSchedOpt.CHK_UNSET);
            due.is("run() with " + i + " unset", x.run(), -1);
            due.is("bundle it was in", x.bundleAt(6 * i, 0), -1);
            due.is("setCycle(" + i + ", -1) when unset", x.setCycle(i, -1), true);
            due.is("setCycle(" + i + ") anew", x.setCycle(i, 6 * i), true);
            due.is("check() with all set again", x.check(), 55);
        }
    }

    private static void refuse(Due due, int i, int c) {
        States.refused(due, "setCycle(" + i + ", " + c + ")", 0, x -> x.setCycle(i, c) ? 1 : 0);
    }

    // 'It is refused (answers false, nothing changes) if i is not in 0..n-1'
    private static void numbersOutsideAreRefused(Due due) {
        for (int i : new int[] {MIN, -2, -1, 10, 11, MAX}) {
            for (int c : new int[] {-1, 0, 63}) {
                refuse(due, i, c);
            }
        }
        for (States.State state : States.ALL) {
            for (int c : new int[] {-1, 0, 63}) {
                String call = "setCycle(n, " + c + "), " + state.name();
                due.is(call, state.make().setCycle(state.n(), c), false);
                States.alike(due, "after " + call, States.after(state, x -> x.setCycle(state.n(), c)), state.made());
            }
        }
    }

    // 'or c is not in -1..63'
    private static void cyclesOutsideAreRefused(Due due) {
        for (int c : new int[] {MIN, -3, -2, 64, 65, MAX}) {
            for (int i : new int[] {MIN, -1, 0, 4, 9, 10, MAX}) {
                refuse(due, i, c);
            }
        }
    }

    // 'in particular every call is refused while n == 0'
    private static void everyCallIsRefusedWhileEmpty(Due due) {
        for (States.State state : States.ALL) {
            BlockSchedOpt x = state.make();
            x.clear();
            for (int i = -1; i <= 10; i++) {
                for (int c = -2; c <= 64; c++) {
                    due.is("setCycle(" + i + ", " + c + ") while empty", x.setCycle(i, c), false);
                }
            }
            due.is("check() after it", x.check(), BlockSchedOpt.CHK_EMPTY);
        }
    }

    private static void aRefusedCycleDoesNotWait(Due due) {
        BlockSchedOpt x = new BlockSchedOpt(1, 1);
        for (int i = 0; i < 10; i++) {
            due.is("setCycle(" + i + ", 3) before it is added", x.setCycle(i, 3), false);
            x.addInstr(1, 0, 0, 0);
            due.is("cycleOf(" + i + ") when added", x.cycleOf(i), -1);
            due.is("setCycle(" + i + ", 3) when added", x.setCycle(i, 3), true);
        }
    }

    // 'Only c(i) changes; other cycles, instructions, initial values and result values are unchanged.'
    private static void onlyOneCycleChanges(Due due) {
        for (States.State state : States.ALL) {
            for (int i = 0; i < state.n(); i++) {
                for (int c : new int[] {-1, 0, 5, 63}) {
                    setOneAndBack(due, state, i, c);
                }
            }
        }
    }

    private static void setOneAndBack(Due due, States.State state, int i, int c) {
        String call = "setCycle(" + i + ", " + c + "), " + state.name();
        BlockSchedOpt x = state.make();
        int[] cycles = Look.cycles(x, state.n());
        int old = cycles[i];
        cycles[i] = c;
        x.setCycle(i, c);
        due.same("cycles after " + call, Look.cycles(x, state.n()), cycles);
        States.alike(due, "after " + call + " and back", States.after(state, y -> {
            y.setCycle(i, c);
            y.setCycle(i, old);
        }), state.made());
    }

    // 'cycleOf(i) answers c(i) for i in 0..n-1 (-1 if unset)'
    private static void readingInside(Due due) {
        BlockSchedOpt x = new BlockSchedOpt(1, 1);
        for (int i = 0; i < 10; i++) {
            x.addInstr(1, 0, 0, 0);
        }
        int[] cycles = {63, -1, 0, 5, 5, 5, -1, 62, 1, 63};
        Look.setCycles(x, cycles);
        due.same("cycles of ten", Look.cycles(x, 10), cycles);
        for (int i = 0; i < 10; i++) {
            int number = i;
            States.unchanged(due, "cycleOf(" + i + ")",
                    state -> Look.cycles(state.make(), 10)[number], block -> block.cycleOf(number));
        }
    }

    // 'and -1 if i is not in 0..n-1. It changes nothing.'
    private static void readingOutside(Due due) {
        for (int i : new int[] {MIN, -2, -1, 10, 11, 64, MAX}) {
            States.refused(due, "cycleOf(" + i + ")", -1, x -> x.cycleOf(i));
        }
        for (States.State state : States.ALL) {
            for (int i = state.n(); i <= 10; i++) {
                due.is("cycleOf(" + i + ") beyond the block, " + state.name(), state.make().cycleOf(i), -1);
            }
        }
        BlockSchedOpt x = Look.block(1, 1, 1, 0, 1, 0, 1, 1, 1, 0, 1, 2, 1, 0);
        Look.setCycles(x, 1, 2, 3);
        x.clear();
        Look.add(x, 1, 0, 1, 0);
        x.setCycle(0, 8);
        due.is("cycleOf(1) of a longer block before", x.cycleOf(1), -1);
        due.is("cycleOf(0)", x.cycleOf(0), 8);
    }
}
