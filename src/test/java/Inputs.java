/** Arguments that several tests give. */
final class Inputs {
    static final int[] NOT_POSITIONS = {-1, 8, 9, 32, 40, -8, Integer.MAX_VALUE, Integer.MIN_VALUE};
    static final int[] NOT_PLAYERS = {-1, 2, 3, 256, Integer.MAX_VALUE, Integer.MIN_VALUE};
    static final int[] NOT_COLOURS = {-1, 6, 7, 256, Integer.MAX_VALUE, Integer.MIN_VALUE};

    private Inputs() {
    }

    static int both(int first, int second) {
        return first | second << 3;
    }
}
