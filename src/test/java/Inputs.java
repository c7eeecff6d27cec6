/** Arguments that several tests give. */
final class Inputs {
    static final int LEAST = Integer.MIN_VALUE;
    static final int GREATEST = Integer.MAX_VALUE;

    // Next to what is allowed, and what a mask, a cast or a shift would turn into something allowed.
    static final int[] NOT_POSITIONS = {-1, 8, 9, 32, 40, -8, 256, 65536, LEAST, GREATEST};
    static final int[] NOT_PLAYERS = {-1, 2, 3, -2, 256, 65537, LEAST, GREATEST};
    static final int[] NOT_COLOURS = {-1, 6, 7, 12, 256, 65536, LEAST, GREATEST};

    /** Bits above those of the positions. */
    static final int[] HIGH_BITS = {256, -256, 1 << 30, LEAST, GREATEST & -256};

    private Inputs() {
    }

    static int both(int first, int second) {
        return first | second << 3;
    }

    static boolean has(int mask, int position) {
        return (mask >> position & 1) == 1;
    }
}
