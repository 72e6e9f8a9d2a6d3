import java.util.List;
import java.util.function.Consumer;
import java.util.function.Function;
import java.util.function.Supplier;
import java.util.function.ToIntFunction;

/** The states an object can be in that the document tells apart, each made anew when asked for. */
final class States {
    /** A state with n instructions. */
    record State(String name, int n, Supplier<BlockSchedOpt> made) {
        BlockSchedOpt make() {
            return made.get();
        }
    }

    static final List<State> ALL = List.of(
            new State("fresh", 0, () -> new BlockSchedOpt(2, 3)),
            new State("empty with initial values", 0, () -> valued(4, 1)),
            new State("one, unset", 1, () -> one()),
            new State("one, at 63", 1, () -> set(one(), 63)),
            new State("five, some unset after a run", 5, () -> someUnset()),
            new State("nine, scheduled", 9, () -> scheduled(many(9))),
            new State("full, unset", 10, () -> many(10)),
            new State("full, scheduled and run", 10, () -> ran(scheduled(many(10)))),
            new State("full, not valid and run", 10, () -> ran(set(many(10), 9, 8, 7, 6, 5, 4, 3, 2, 1, 0))),
            new State("full, all in one cycle", 10, () -> set(many(10), 5, 5, 5, 5, 5, 5, 5, 5, 5, 5)),
            new State("cleared after a run", 0, () -> cleared()));

    private static final List<Function<BlockSchedOpt, int[]>> READINGS =
            List.of(Look::whole, Look::everythingBackwards, Look::initial, Look::ranAtOnce);

    private static final int[] MANY = {
        1, 0, -6, 3, 4, 1, 0, 7, 5, 2, 6, -3, 2, 3, 1, 2, 6, 3, 0, 12, 3, 4, 6, 7, 5, 5, 7, 1,
        4, 6, 4, 5, 6, 6, 7, 1, 2, 7, 0, 5};

    private States() {
    }

    /** The object of the state after some calls, made anew each time. */
    static Supplier<BlockSchedOpt> after(State state, Consumer<BlockSchedOpt> calls) {
        return () -> {
            BlockSchedOpt x = state.make();
            calls.accept(x);
            return x;
        };
    }

    /**
     * Both are the same, as far as calls can tell. They are read in several ways, since a reading
     * that itself uses a faulty call spoils both in the same way.
     */
    static void alike(Due due, String what, Supplier<BlockSchedOpt> one, Supplier<BlockSchedOpt> other) {
        for (Function<BlockSchedOpt, int[]> reading : READINGS) {
            due.same(what, reading.apply(one.get()), reading.apply(other.get()));
        }
    }

    /** In each state the call gives the answer that is due and leaves all as it is without it. */
    static void unchanged(Due due, String call, ToIntFunction<State> want, ToIntFunction<BlockSchedOpt> act) {
        for (State state : ALL) {
            due.is(call + ", " + state.name, act.applyAsInt(state.make()), want.applyAsInt(state));
            alike(due, "after " + call + ", " + state.name, after(state, act::applyAsInt), state.made);
        }
    }

    static void refused(Due due, String call, int answer, ToIntFunction<BlockSchedOpt> act) {
        unchanged(due, call, state -> answer, act);
    }

    private static BlockSchedOpt valued(int mulLatency, int loadLatency) {
        BlockSchedOpt x = new BlockSchedOpt(mulLatency, loadLatency);
        for (int loc = 0; loc < 16; loc++) {
            x.setInit(loc, 1000003 * (loc + 3));
        }
        return x;
    }

    private static BlockSchedOpt one() {
        BlockSchedOpt x = valued(1, 4);
        Look.add(x, 4, 2, 3, 4);
        return x;
    }

    /** The first n instructions of a block in which each opcode and each unit occurs. */
    private static BlockSchedOpt many(int n) {
        BlockSchedOpt x = valued(3, 2);
        Look.add(x, java.util.Arrays.copyOf(MANY, 4 * n));
        return x;
    }

    private static BlockSchedOpt someUnset() {
        BlockSchedOpt x = ran(set(many(5), 4, 3, 2, 1, 0));
        x.setCycle(0, -1);
        x.setCycle(3, -1);
        return x;
    }

    private static BlockSchedOpt cleared() {
        BlockSchedOpt x = ran(set(many(10), 9, 8, 7, 6, 5, 4, 3, 2, 1, 0));
        x.clear();
        return x;
    }

    private static BlockSchedOpt set(BlockSchedOpt x, int... cycles) {
        Look.setCycles(x, cycles);
        return x;
    }

    private static BlockSchedOpt scheduled(BlockSchedOpt x) {
        x.schedule();
        return x;
    }

    private static BlockSchedOpt ran(BlockSchedOpt x) {
        x.run();
        return x;
    }
}
