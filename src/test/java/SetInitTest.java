/** Promise 4: setting an initial value. */
public final class SetInitTest {
    private static final int MIN = Integer.MIN_VALUE;
    private static final int MAX = Integer.MAX_VALUE;
    private static final int[] VALUES = {MIN, MIN + 1, -1, 0, 1, 77, MAX};

    public static void main(String[] args) {
        Due due = new Due();
        everyLocationTakesAnyInt(due);
        theLastValueCounts(due);
        otherLocationsAreRefused(due);
        theRestIsUnchanged(due);
        due.end();
    }

    // 'with loc in 0..15 sets the initial value of location loc to value (any int) and answers true'
    private static void everyLocationTakesAnyInt(Due due) {
        for (States.State state : States.ALL) {
            for (int loc = 0; loc <= 15; loc++) {
                for (int value : VALUES) {
                    BlockSchedOpt x = state.make();
                    int[] want = Look.initial(state.make());
                    want[loc] = value;
                    String call = "setInit(" + loc + ", " + value + "), " + state.name();
                    due.is(call, x.setInit(loc, value), true);
                    due.same("initial values after " + call, Look.initial(x), want);
                }
            }
        }
    }

    private static void theLastValueCounts(Due due) {
        // r0 = r0 - r1
        BlockSchedOpt x = Look.block(1, 1, 3, 0, 0, 1);
        x.setCycle(0, 0);
        for (int value : VALUES) {
            x.setInit(0, value);
            x.setInit(1, 2);
            x.run();
            due.is("r0 - r1 in order, from " + value, x.seqValue(0), value - 2);
            x.run();
            due.is("r0 - r1 once more, from the same initial values", x.machValue(0), value - 2);
        }
    }

    // 'With loc outside 0..15 it answers false and changes nothing.'
    private static void otherLocationsAreRefused(Due due) {
        for (int loc : new int[] {MIN, -16, -1, 16, 17, 24, MAX}) {
            for (int value : new int[] {MIN, 0, 5, MAX}) {
                String call = "setInit(" + loc + ", " + value + ")";
                States.refused(due, call, 0, x -> x.setInit(loc, value) ? 1 : 0);
            }
        }
    }

    // 'Result values are unchanged; they change only by run(). Instructions and cycles are unchanged.'
    private static void theRestIsUnchanged(Due due) {
        for (States.State state : States.ALL) {
            BlockSchedOpt x = state.make();
            int[] before = Look.everything(x);
            for (int loc = 0; loc < 16; loc++) {
                x.setInit(loc, -7);
            }
            due.same("all but initial values after setInit, " + state.name(), Look.everything(x), before);
            due.is("n after setInit, " + state.name(), x.addInstr(1, 0, 0, 0), state.n() < 10 ? state.n() : -1);
            due.same("latencies after setInit, " + state.name(),
                    Look.latencies(x), Look.latencies(state.make()));
        }
    }
}
