import java.util.Arrays;
import java.util.stream.IntStream;

/** Reads and fills objects for the tests, by public calls alone. */
final class Look {
    private Look() {
    }

    /** A block of the given instructions, four numbers each: op, d, a, b. */
    static BlockSchedOpt block(int mulLatency, int loadLatency, int... fields) {
        BlockSchedOpt x = new BlockSchedOpt(mulLatency, loadLatency);
        add(x, fields);
        return x;
    }

    static void add(BlockSchedOpt x, int... fields) {
        for (int k = 0; k + 3 < fields.length; k += 4) {
            x.addInstr(fields[k], fields[k + 1], fields[k + 2], fields[k + 3]);
        }
    }

    static void setCycles(BlockSchedOpt x, int... cycles) {
        for (int i = 0; i < cycles.length; i++) {
            x.setCycle(i, cycles[i]);
        }
    }

    static int[] cycles(BlockSchedOpt x, int n) {
        return IntStream.range(0, n).map(x::cycleOf).toArray();
    }

    static int[] sequential(BlockSchedOpt x) {
        return IntStream.range(0, 16).map(x::seqValue).toArray();
    }

    static int[] machine(BlockSchedOpt x) {
        return IntStream.range(0, 16).map(x::machValue).toArray();
    }

    /** All that can be read without changing anything, and beyond every edge. */
    static int[] everything(BlockSchedOpt x) {
        IntStream.Builder seen = IntStream.builder();
        readCycles(x, seen);
        readValues(x, seen);
        readBundles(x, seen);
        readJudgements(x, seen);
        readEdges(x, seen);
        return seen.build().toArray();
    }

    /**
     * The same the other way round: what a reading call changes by mistake shows only in what is
     * read before that call is used for reading.
     */
    static int[] everythingBackwards(BlockSchedOpt x) {
        IntStream.Builder seen = IntStream.builder();
        readEdges(x, seen);
        readJudgements(x, seen);
        readBundles(x, seen);
        readValues(x, seen);
        readCycles(x, seen);
        return seen.build().toArray();
    }

    private static void readCycles(BlockSchedOpt x, IntStream.Builder seen) {
        for (int i = -2; i <= 11; i++) {
            seen.add(x.cycleOf(i));
        }
    }

    private static void readValues(BlockSchedOpt x, IntStream.Builder seen) {
        for (int loc = -1; loc <= 16; loc++) {
            seen.add(x.seqValue(loc));
            seen.add(x.machValue(loc));
        }
    }

    private static void readBundles(BlockSchedOpt x, IntStream.Builder seen) {
        for (int t = -2; t <= 65; t++) {
            for (int slot = -1; slot <= 10; slot++) {
                seen.add(x.bundleAt(t, slot));
            }
        }
    }

    private static void readJudgements(BlockSchedOpt x, IntStream.Builder seen) {
        seen.add(x.check());
        seen.add(x.criticalPath());
    }

    private static void readEdges(BlockSchedOpt x, IntStream.Builder seen) {
        for (int i = -2; i <= 11; i++) {
            for (int j = -2; j <= 11; j++) {
                seen.add(x.edgeKinds(i, j));
                seen.add(x.edgeDelay(i, j));
            }
        }
    }

    /** The 16 initial values; uses the object up, as they show only in runs of another block. */
    static int[] initial(BlockSchedOpt x) {
        int[] values = new int[16];
        for (int written : new int[] {0, 1}) {
            x.clear();
            add(x, 1, written, 0, 0);
            x.setCycle(0, 0);
            x.run();
            for (int loc = 0; loc < 16; loc++) {
                if (loc != written) {
                    values[loc] = x.seqValue(loc);
                }
            }
        }
        return values;
    }

    /** mulLatency and loadLatency; uses the object up, as they show only in other blocks. */
    static int[] latencies(BlockSchedOpt x) {
        x.clear();
        add(x, 4, 0, 0, 0);
        int mulLatency = x.criticalPath();
        x.clear();
        add(x, 5, 0, 0, 0);
        return new int[] {mulLatency, x.criticalPath()};
    }

    /** What a run leaves, with no other call before it where the cycles are set; changes the object. */
    static int[] ranAtOnce(BlockSchedOpt x) {
        int answer = x.run();
        if (answer == -1) {
            setCycles(x, 9, 8, 7, 6, 5, 4, 3, 2, 1, 0);
            answer = x.run();
        }
        IntStream values = IntStream.concat(Arrays.stream(sequential(x)), Arrays.stream(machine(x)));
        return IntStream.concat(IntStream.of(answer), values).toArray();
    }

    /** All there is to know of the object, its instructions and initial values too; uses it up. */
    static int[] whole(BlockSchedOpt x) {
        IntStream.Builder seen = IntStream.builder();
        Arrays.stream(everything(x)).forEach(seen::add);
        seen.add(x.run());
        Arrays.stream(everything(x)).forEach(seen::add);
        seen.add(x.schedule());
        seen.add(x.run());
        Arrays.stream(everything(x)).forEach(seen::add);
        seen.add(x.addInstr(1, 0, 0, 0));
        Arrays.stream(initial(x)).forEach(seen::add);
        Arrays.stream(latencies(x)).forEach(seen::add);
        return seen.build().toArray();
    }
}
