/** Promise 12: bundle contents. */
public final class BundleTest {
    public static void main(String[] args) {
        Due due = new Due();
        ascendingIndex(due);
        outsideIsNoOp(due);
        unsetIsInNoBundle(due);
        tenInOneCycle(due);
        nothingChanges(due);
        due.end();
    }

    private static BlockSchedOpt ten() {
        BlockSchedOpt x = new BlockSchedOpt(1, 1);
        for (int i = 0; i < 10; i++) {
            x.addInstr(1 + i % 6, i % 8, i % 8, i % 8);
        }
        return x;
    }

    private static void expect(Due due, BlockSchedOpt x, int cycle, int... bundle) {
        for (int slot = 0; slot < 12; slot++) {
            int want = slot < bundle.length ? bundle[slot] : -1;
            due.is("bundleAt(" + cycle + ", " + slot + ")", x.bundleAt(cycle, slot), want);
        }
    }

    private static void ascendingIndex(Due due) {
        BlockSchedOpt x = ten();
        Look.setCycles(x, 63, 0, 5, 0, 5, 63, 5, 5, 1, 0);
        expect(due, x, 0, 1, 3, 9);
        expect(due, x, 1, 8);
        expect(due, x, 2);
        expect(due, x, 5, 2, 4, 6, 7);
        expect(due, x, 62);
        expect(due, x, 63, 0, 5);
    }

    private static void outsideIsNoOp(Due due) {
        BlockSchedOpt x = ten();
        Look.setCycles(x, 0, 0, 0, 63, 63, 63);
        int[] wrong = {Integer.MIN_VALUE, -2, -1, 64, 65, Integer.MAX_VALUE};
        for (int cycle : wrong) {
            for (int slot = 0; slot < 12; slot++) {
                due.is("bundleAt(" + cycle + ", " + slot + ")", x.bundleAt(cycle, slot), -1);
            }
        }
        for (int slot : wrong) {
            due.is("bundleAt(0, " + slot + ")", x.bundleAt(0, slot), -1);
            due.is("bundleAt(63, " + slot + ")", x.bundleAt(63, slot), -1);
        }
        due.is("bundleAt of an empty block", new BlockSchedOpt(1, 1).bundleAt(0, 0), -1);
    }

    private static void unsetIsInNoBundle(Due due) {
        BlockSchedOpt x = ten();
        for (int cycle = -2; cycle <= 65; cycle++) {
            expect(due, x, cycle);
        }
        x.setCycle(4, 7);
        expect(due, x, 7, 4);
        x.setCycle(4, -1);
        expect(due, x, 7);
        x.schedule();
        x.clear();
        expect(due, x, 0);
        Look.add(x, 1, 0, 0, 0);
        expect(due, x, 0);
    }

    private static void tenInOneCycle(Due due) {
        BlockSchedOpt x = ten();
        Look.setCycles(x, 9, 9, 9, 9, 9, 9, 9, 9, 9, 9);
        expect(due, x, 9, 0, 1, 2, 3, 4, 5, 6, 7, 8, 9);
    }

    private static void nothingChanges(Due due) {
        BlockSchedOpt x = ten();
        x.schedule();
        x.run();
        int[] before = Look.everything(x);
        x.bundleAt(0, 0);
        x.bundleAt(-1, 99);
        due.same("after bundleAt", Look.everything(x), before);
    }
}
