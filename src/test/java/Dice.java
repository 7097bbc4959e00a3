/** Numbers that look drawn and are the same every time. */
final class Dice {
    private long state;

    Dice(long seed) {
        state = seed * 0x9E3779B97F4A7C15L + 0x1234567;
    }

    /** 0 .. n - 1. */
    int upTo(int n) {
        state = state * 6364136223846793005L + 1442695040888963407L;
        return (int) ((state >>> 33) % n);
    }

    int between(int low, int high) {
        return low + upTo(high - low + 1);
    }

    boolean oneIn(int n) {
        return upTo(n) == 0;
    }

    int any() {
        return (upTo(1 << 16) << 16) | upTo(1 << 16);
    }

    int odd() {
        int[] far = {Integer.MIN_VALUE, Integer.MIN_VALUE + 1, Integer.MAX_VALUE, Integer.MAX_VALUE - 1, -1, -2, 0, 1,
            Integer.MAX_VALUE - 2, 1 << 16, -(1 << 16), 100, -100, 255, 256, 913, 1000, 40, 41, 60, 12, 13};
        return oneIn(3) ? any() : far[upTo(far.length)];
    }
}
