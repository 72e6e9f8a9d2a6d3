/** All promises together: long rows of mixed calls, right and wrong, beside the plain model. */
public final class MixedCallsTest {
    private static final int STOP_AFTER = 20;

    private final Due due = new Due();
    private final Numbers numbers = new Numbers(12);
    private BlockSchedOpt x;
    private PlainModel model;

    public static void main(String[] args) {
        MixedCallsTest test = new MixedCallsTest();
        for (int round = 0; round < 300 && test.due.wrong() < STOP_AFTER; round++) {
            test.row();
        }
        test.due.end();
    }

    private void row() {
        int mulLatency = numbers.in(-1, 6);
        int loadLatency = numbers.in(-1, 6);
        x = new BlockSchedOpt(mulLatency, loadLatency);
        model = new PlainModel(mulLatency, loadLatency);
        for (int step = 0; step < 80; step++) {
            call();
            compare();
        }
    }

    private void call() {
        int kind = numbers.in(0, 20);
        if (kind < 7) {
            add();
        } else if (kind < 11) {
            int i = numbers.in(-1, 10);
            int c = numbers.in(0, 9) == 0 ? numbers.in(-3, 66) : numbers.in(-1, 9);
            due.is("setCycle(" + i + ", " + c + ")", x.setCycle(i, c), model.setCycle(i, c));
        } else if (kind < 14) {
            int loc = numbers.in(-1, 16);
            int value = numbers.any();
            due.is("setInit(" + loc + ", " + value + ")", x.setInit(loc, value), model.setInit(loc, value));
        } else if (kind < 17) {
            due.is("schedule()", x.schedule(), model.schedule());
        } else if (kind < 20) {
            due.is("run()", x.run(), model.run());
        } else if (numbers.in(0, 1) == 0) {
            x.clear();
            model.clear();
        }
    }

    private void add() {
        int op = numbers.in(0, 9) == 0 ? numbers.in(-1, 8) : numbers.in(1, 6);
        int d = numbers.in(0, 19) == 0 ? numbers.any() : numbers.in(0, 7);
        int a = op == 1 || numbers.in(0, 19) == 0 ? numbers.any() : numbers.in(0, 7);
        int b = op == 5 || op == 6 || numbers.in(0, 19) == 0 ? numbers.any() : numbers.in(0, 7);
        due.is("addInstr(" + op + ", " + d + ", " + a + ", " + b + ")",
                x.addInstr(op, d, a, b), model.addInstr(op, d, a, b));
    }

    private void compare() {
        due.is("check()", x.check(), model.check());
        due.is("criticalPath()", x.criticalPath(), model.criticalPath());
        for (int i = -1; i <= 10; i++) {
            due.is("cycleOf(" + i + ")", x.cycleOf(i), model.cycleOf(i));
            for (int j = -1; j <= 10; j++) {
                due.is("edgeKinds(" + i + ", " + j + ")", x.edgeKinds(i, j), model.edgeKinds(i, j));
                due.is("edgeDelay(" + i + ", " + j + ")", x.edgeDelay(i, j), model.edgeDelay(i, j));
            }
        }
        for (int loc = -1; loc <= 16; loc++) {
            due.is("seqValue(" + loc + ")", x.seqValue(loc), model.seqValue(loc));
            due.is("machValue(" + loc + ")", x.machValue(loc), model.machValue(loc));
        }
        for (int cycle = -1; cycle <= 64; cycle++) {
            for (int slot = -1; slot <= 4; slot++) {
                due.is("bundleAt(" + cycle + ", " + slot + ")",
                        x.bundleAt(cycle, slot), model.bundleAt(cycle, slot));
            }
        }
    }
}
