/** Promise 5: setting and reading a cycle. */
public final class CycleTest {
    public static void main(String[] args) {
        Due due = new Due();
        everyCycleCanBeSet(due);
        wrongInputsAreRefused(due);
        theRestIsUnchanged(due);
        readingBeyondTheBlock(due);
        due.end();
    }

    private static void everyCycleCanBeSet(Due due) {
        BlockSchedOpt x = Look.block(2, 2, 1, 0, 1, 0, 2, 1, 0, 0, 6, 1, 0, 0);
        for (int i = 0; i < 3; i++) {
            for (int c = 63; c >= -1; c--) {
                due.is("setCycle(" + i + ", " + c + ")", x.setCycle(i, c), true);
                due.is("cycleOf(" + i + ")", x.cycleOf(i), c);
            }
        }
        due.is("check() with all unset again", x.check(), BlockSchedOpt.CHK_UNSET);
        Look.setCycles(x, 9, 9, 9);
        due.same("cycles that are not valid", Look.cycles(x, 3), new int[] {9, 9, 9});
    }

    private static void wrongInputsAreRefused(Due due) {
        BlockSchedOpt x = new BlockSchedOpt(2, 2);
        for (int i = -1; i <= 10; i++) {
            due.is("setCycle(" + i + ", 0) while empty", x.setCycle(i, 0), false);
            due.is("setCycle(" + i + ", -1) while empty", x.setCycle(i, -1), false);
        }
        Look.add(x, 1, 0, 1, 0, 1, 1, 1, 0);
        Look.setCycles(x, 5, 6);
        x.run();
        int[] before = Look.everything(x);
        for (int i : new int[] {Integer.MIN_VALUE, -1, 2, 9, 10, Integer.MAX_VALUE}) {
            due.is("setCycle(" + i + ", 0)", x.setCycle(i, 0), false);
            due.is("setCycle(" + i + ", -1)", x.setCycle(i, -1), false);
        }
        for (int c : new int[] {Integer.MIN_VALUE, -2, 64, 65, Integer.MAX_VALUE}) {
            due.is("setCycle(0, " + c + ")", x.setCycle(0, c), false);
            due.is("setCycle(1, " + c + ")", x.setCycle(1, c), false);
        }
        due.same("after refusals", Look.everything(x), before);
        Look.add(x, 1, 2, 1, 0);
        due.is("cycle of one added after a refused call for it", x.cycleOf(2), -1);
    }

    private static void theRestIsUnchanged(Due due) {
        BlockSchedOpt x = Look.block(2, 3, 1, 0, 5, 0, 4, 1, 0, 0, 6, 1, 0, 0);
        x.setInit(7, 70);
        x.schedule();
        x.run();
        int[] sequential = Look.sequential(x);
        int[] machine = Look.machine(x);
        int[] cycles = Look.cycles(x, 3);
        x.setCycle(1, 40);
        cycles[1] = 40;
        due.same("cycles after setCycle", Look.cycles(x, 3), cycles);
        due.same("sequential values after setCycle", Look.sequential(x), sequential);
        due.same("machine values after setCycle", Look.machine(x), machine);
        due.is("edgeKinds(0, 1) after setCycle", x.edgeKinds(0, 1), BlockSchedOpt.EDGE_TRUE);
        x.run();
        due.is("initial value after setCycle", x.seqValue(7), 70);
    }

    private static void readingBeyondTheBlock(Due due) {
        BlockSchedOpt x = Look.block(1, 1, 1, 0, 1, 0, 1, 1, 1, 0, 1, 2, 1, 0);
        Look.setCycles(x, 1, 2, 3);
        for (int i : new int[] {Integer.MIN_VALUE, -1, 3, 9, 10, 64, Integer.MAX_VALUE}) {
            due.is("cycleOf(" + i + ")", x.cycleOf(i), -1);
        }
        x.clear();
        Look.add(x, 1, 0, 1, 0);
        x.setCycle(0, 8);
        due.is("cycleOf(1) of a longer block before", x.cycleOf(1), -1);
        due.is("cycleOf(0)", x.cycleOf(0), 8);
    }
}
