/** LANGUAGE.md, rule 7: no call throws, whatever its arguments, in any state. */
public final class AnyArgumentsTest {
    private static final int[] ANY = {
        Integer.MIN_VALUE, -65, -1, 0, 1, 5, 7, 8, 9, 10, 15, 16, 63, 64, Integer.MAX_VALUE};

    public static void main(String[] args) {
        Due due = new Due();
        for (States.State state : States.ALL) {
            for (int p : ANY) {
                for (int q : ANY) {
                    try {
                        callAll(state.make(), p, q);
                    } catch (RuntimeException thrown) {
                        due.fail("with " + p + " and " + q + ", " + state.name() + ": " + thrown);
                    }
                }
            }
        }
        due.end();
    }

    private static void callAll(BlockSchedOpt x, int p, int q) {
        x.cycleOf(p);
        x.seqValue(p);
        x.machValue(p);
        x.edgeKinds(p, q);
        x.edgeDelay(p, q);
        x.bundleAt(p, q);
        x.setCycle(p, q);
        x.setInit(p, q);
        x.check();
        x.run();
        for (int op = 0; op <= 7; op++) {
            x.addInstr(op, 3, p, q);
            x.addInstr(op, p, q, 3);
        }
        x.schedule();
        x.check();
        x.criticalPath();
        x.run();
        new BlockSchedOpt(p, q).schedule();
    }
}
