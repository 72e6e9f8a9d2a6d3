/** A fixed row of numbers that looks mixed, the same in every run. */
final class Numbers {
    private long state;

    Numbers(long start) {
        state = start;
    }

    /** A number in low..high. */
    int in(int low, int high) {
        state = state * 6364136223846793005L + 1442695040888963407L;
        return low + (int) ((state >>> 33) % (high - low + 1));
    }

    /** A number of any size, often near an edge of int. */
    int any() {
        return switch (in(0, 5)) {
            case 0 -> Integer.MIN_VALUE + in(0, 8);
            case 1 -> Integer.MAX_VALUE - in(0, 8);
            case 2 -> in(-9, 9);
            default -> (in(0, 65535) << 16) | in(0, 65535);
        };
    }
}
