/** Games that several tests begin with. */
final class Games {
    /**
     * Each position's player, colour and two moves: every colour, moves to the position itself,
     * two moves to the same position, and both players winning from some positions.
     */
    private static final int[][] MIXED = {
        {0, 1, 0, 1},
        {1, 2, 0, 4},
        {1, 3, 4, 4},
        {0, 5, 3, 6},
        {0, 0, 2, 1},
        {1, 4, 1, 3},
        {1, 5, 6, 7},
        {0, 4, 5, 3},
    };

    private Games() {
    }

    static ParityGame mixed() {
        ParityGame game = new ParityGame();
        for (int p = 0; p < 8; p++) {
            int[] given = MIXED[p];
            game.set(p, given[0], given[1], Inputs.both(given[2], given[3]));
        }
        return game;
    }

    static Reference mixedReference() {
        Reference game = new Reference();
        for (int p = 0; p < 8; p++) {
            int[] given = MIXED[p];
            game.set(p, given[0], given[1], Inputs.both(given[2], given[3]));
        }
        return game;
    }
}
