/** Collects the answers that are not as due, so that a test tells all of them before it fails. */
final class Due {
    private int wrong = 0;

    void is(String call, int got, int want) {
        if (got != want) {
            wrong++;
            System.out.println(call + " answered " + got + ", due is " + want);
        }
    }

    void is(String call, boolean got, boolean want) {
        int gotBit = got ? 1 : 0;
        int wantBit = want ? 1 : 0;
        is(call, gotBit, wantBit);
    }

    void same(String what, int[] got, int[] want) {
        if (!java.util.Arrays.equals(got, want)) {
            wrong++;
            System.out.println(what + ": " + java.util.Arrays.toString(got)
                    + ", due is " + java.util.Arrays.toString(want));
        }
    }

    void fail(String what) {
        wrong++;
        System.out.println(what);
    }

    int wrong() {
        return wrong;
    }

    void end() {
        System.out.println(wrong == 0 ? "all as due" : wrong + " not as due");
        if (wrong != 0) {
            System.exit(1);
        }
    }
}
