/** Numbers that look drawn by lot but are the same in every run. */
final class Choices {
    private long seed;

    Choices(long seed) {
        this.seed = seed * 0x9E3779B97F4A7C15L + 1;
    }

    /** A number in 0..bound-1. */
    int below(int bound) {
        seed = seed * 6364136223846793005L + 1442695040888963407L;
        return (int) ((seed >>> 33) % bound);
    }

    boolean oneIn(int chances) {
        return below(chances) == 0;
    }

    int from(int... values) {
        return values[below(values.length)];
    }

    /** An instruction {op, a, b} that append takes; its addresses crowd on a few lines so that sections meet. */
    int[] instruction() {
        int op = from(0, 1, 1, 1, 2, 2, 2, 3, 4, 4, 5, 5, 6, 6, 8, oneIn(4) ? 7 : 2);
        int b = switch (op) {
            case 1, 2 -> address();
            case 3, 5, 6 -> below(4);
            case 8 -> oneIn(4) ? 1 + below(16) : 1 + below(3);
            default -> oneIn(8) ? from(Integer.MIN_VALUE, Integer.MAX_VALUE, -1, 0) : below(160) - 40;
        };
        return new int[] {op, below(4), b};
    }

    private int address() {
        return oneIn(3) ? below(64) : from(0, 1, 3, 4, 16, 19, 32, 48, 63);
    }
}
