/** Promise 12: bundle contents. */
public final class BundleTest {
    private static final int[] WRONG = {Integer.MIN_VALUE, -2, -1, 64, 65, Integer.MAX_VALUE};

    public static void main(String[] args) {
        Due due = new Due();
        ascendingIndex(due);
        cyclesOutside(due);
        slotsBelowZero(due);
        slotsBeyondTheBundle(due);
        unsetIsInNoBundle(due);
        tenInOneCycle(due);
        nothingChanges(due);
        due.end();
    }

    private static BlockSchedOpt ten() {
        BlockSchedOpt x = new BlockSchedOpt(1, 1);
        for (int i = 0; i < 10; i++) {
            x.addInstr(1 + i % 6, i % 8, i % 8, i % 8);
        }
        return x;
    }

    private static void expect(Due due, BlockSchedOpt x, int cycle, int... bundle) {
        for (int slot = 0; slot < 12; slot++) {
            int want = slot < bundle.length ? bundle[slot] : -1;
            due.is("bundleAt(" + cycle + ", " + slot + ")", x.bundleAt(cycle, slot), want);
        }
    }

    // 'bundleAt(cycle, slot) answers the index of the instruction in issue slot slot of bundle cycle: among the
    // instructions with c(i) == cycle, in ascending index, the one at position slot (first is 0).'
    private static void ascendingIndex(Due due) {
        BlockSchedOpt x = ten();
        Look.setCycles(x, 63, 0, 5, 0, 5, 63, 5, 5, 1, 0);
        expect(due, x, 0, 1, 3, 9);
        expect(due, x, 1, 8);
        expect(due, x, 2);
        expect(due, x, 5, 2, 4, 6, 7);
        expect(due, x, 62);
        expect(due, x, 63, 0, 5);
    }

    // 'It answers -1 if cycle is not in 0..63'
    private static void cyclesOutside(Due due) {
        for (int cycle : WRONG) {
            for (int slot : new int[] {0, 1, 2, 9, 10}) {
                String call = "bundleAt(" + cycle + ", " + slot + ")";
                States.refused(due, call, -1, x -> x.bundleAt(cycle, slot));
            }
        }
    }

    // 'slot < 0'
    private static void slotsBelowZero(Due due) {
        for (int slot : new int[] {Integer.MIN_VALUE, -64, -2, -1}) {
            for (int cycle : new int[] {-1, 0, 5, 63, 64}) {
                String call = "bundleAt(" + cycle + ", " + slot + ")";
                States.refused(due, call, -1, x -> x.bundleAt(cycle, slot));
            }
        }
    }

    // 'or there are not more than slot such instructions (a no-op)'
    private static void slotsBeyondTheBundle(Due due) {
        for (int held = 0; held <= 10; held++) {
            for (int cycle : new int[] {0, 1, 62, 63}) {
                BlockSchedOpt x = ten();
                for (int i = 0; i < 10; i++) {
                    x.setCycle(i, i < held ? cycle : 30);
                }
                for (int slot = 0; slot <= 11; slot++) {
                    int want = slot < held ? slot : -1;
                    due.is("bundleAt(" + cycle + ", " + slot + ") of " + held, x.bundleAt(cycle, slot), want);
                }
                for (int slot : new int[] {64, Integer.MAX_VALUE}) {
                    due.is("bundleAt(" + cycle + ", " + slot + ") of " + held, x.bundleAt(cycle, slot), -1);
                }
            }
        }
        for (int slot : new int[] {10, 11, Integer.MAX_VALUE}) {
            for (int cycle : new int[] {0, 5, 63}) {
                String call = "bundleAt(" + cycle + ", " + slot + ")";
                States.refused(due, call, -1, x -> x.bundleAt(cycle, slot));
            }
        }
        due.is("bundleAt of an empty block", new BlockSchedOpt(1, 1).bundleAt(0, 0), -1);
    }

    // 'Unset instructions are in no bundle.'
    private static void unsetIsInNoBundle(Due due) {
        BlockSchedOpt x = ten();
        for (int cycle = -2; cycle <= 65; cycle++) {
            expect(due, x, cycle);
        }
        x.setCycle(4, 7);
        expect(due, x, 7, 4);
        x.setCycle(4, -1);
        expect(due, x, 7);
        x.schedule();
        x.clear();
        expect(due, x, 0);
        Look.add(x, 1, 0, 0, 0);
        expect(due, x, 0);
    }

    // 'When cycles set by hand put more than two instructions into one cycle, slots 2 and beyond answer
    // those further instructions.'
    private static void tenInOneCycle(Due due) {
        for (int cycle = 0; cycle <= 63; cycle++) {
            BlockSchedOpt x = ten();
            for (int i = 0; i < 10; i++) {
                x.setCycle(i, cycle);
            }
            expect(due, x, cycle, 0, 1, 2, 3, 4, 5, 6, 7, 8, 9);
            x.setCycle(0, -1);
            x.setCycle(5, -1);
            expect(due, x, cycle, 1, 2, 3, 4, 6, 7, 8, 9);
        }
    }

    // 'It changes nothing.'
    private static void nothingChanges(Due due) {
        BlockSchedOpt x = ten();
        x.schedule();
        x.run();
        int[] before = Look.everything(x);
        x.bundleAt(0, 0);
        x.bundleAt(-1, 99);
        due.same("after bundleAt", Look.everything(x), before);
        for (int cycle : new int[] {0, 5, 63}) {
            for (int slot = 0; slot < 3; slot++) {
                int at = slot;
                States.unchanged(due, "bundleAt(" + cycle + ", " + slot + ")",
                        state -> state.make().bundleAt(cycle, at), y -> y.bundleAt(cycle, at));
            }
        }
    }
}
