/** A game of two players on a graph that goes on for ever; the promises are in DOC.md. */
public final class ParityGame {
    public static final int BAD_POSITION = -1;
    public static final int BAD_COLOUR = -2;
    public static final int BAD_PLAYER = -3;

    private static final int POSITIONS = 8;
    private static final int COLOURS = 6;
    private static final int ALL_POSITIONS = 255;
    private static final int LAST_PLAN = 255;

    private final int[] colours = new int[POSITIONS];
    private final int[] firstMoves = new int[POSITIONS];
    private final int[] secondMoves = new int[POSITIONS];

    /** The positions of player 1, as a mask. */
    private int owners;

    // Only a workplace of wonByPlan: methods make no arrays, and nothing here outlives a call.
    private final int[] reach = new int[POSITIONS];

    public ParityGame() {
        for (int p = 0; p < POSITIONS; p++) {
            firstMoves[p] = p;
            secondMoves[p] = p;
        }
    }

    public int set(int position, int player, int colour, int moves) {
        if (!isPosition(position)) {
            return BAD_POSITION;
        }
        if (!isPlayer(player)) {
            return BAD_PLAYER;
        }
        if (!isColour(colour)) {
            return BAD_COLOUR;
        }
        owners = (owners & ~(1 << position)) | (player << position);
        colours[position] = colour;
        firstMoves[position] = moves & 7;
        secondMoves[position] = (moves >> 3) & 7;
        return 0;
    }

    public int paint(int position, int colour) {
        if (!isPosition(position)) {
            return BAD_POSITION;
        }
        if (!isColour(colour)) {
            return BAD_COLOUR;
        }
        int old = colours[position];
        colours[position] = colour;
        return old;
    }

    public int hand(int position) {
        if (!isPosition(position)) {
            return BAD_POSITION;
        }
        owners ^= 1 << position;
        return bit(owners, position);
    }

    public void mirror() {
        owners ^= ALL_POSITIONS;
        for (int p = 0; p < POSITIONS; p++) {
            colours[p] = colours[p] == COLOURS - 1 ? 0 : colours[p] + 1;
        }
    }

    public int winner(int position) {
        if (!isPosition(position)) {
            return BAD_POSITION;
        }
        int won = wonByPlayer0(owners);
        return contains(won, position) ? 0 : 1;
    }

    public int region() {
        return wonByPlayer0(owners);
    }

    public boolean good(int player, int choices) {
        if (!isPlayer(player)) {
            return false;
        }
        int won = wonBy(player);
        return holdsFor(won, player, choices);
    }

    public int plans(int player) {
        if (!isPlayer(player)) {
            return BAD_PLAYER;
        }
        int won = wonBy(player);
        int count = 0;
        for (int choices = 0; choices <= LAST_PLAN; choices++) {
            if (holdsFor(won, player, choices)) {
                count++;
            }
        }
        return count;
    }

    public int firstPlan(int player) {
        if (!isPlayer(player)) {
            return BAD_PLAYER;
        }
        int won = wonBy(player);
        int choices = 0;
        // One plan is always good for all that its player wins, so the last need not be tried.
        while (choices < LAST_PLAN && !holdsFor(won, player, choices)) {
            choices++;
        }
        return choices;
    }

    public boolean canForce(int a, int b) {
        if (!isPosition(a) || !isPosition(b)) {
            return false;
        }
        int forced = 1 << b;
        // At most seven positions can be added, and a round that adds none is followed by no
        // other that does, so eight rounds are enough.
        for (int round = 0; round < POSITIONS; round++) {
            for (int p = 0; p < POSITIONS; p++) {
                if (isForcedInto(forced, p)) {
                    forced |= 1 << p;
                }
            }
        }
        return contains(forced, a);
    }

    public int contested() {
        int won = wonByPlayer0(owners);
        int count = 0;
        for (int p = 0; p < POSITIONS; p++) {
            int wonThen = wonByPlayer0(owners ^ (1 << p));
            if (wonThen != won) {
                count++;
            }
        }
        return count;
    }

    private static boolean isPosition(int position) {
        return position >= 0 && position < POSITIONS;
    }

    private static boolean isPlayer(int player) {
        return player == 0 || player == 1;
    }

    private static boolean isColour(int colour) {
        return colour >= 0 && colour < COLOURS;
    }

    private static int bit(int mask, int position) {
        return (mask >> position) & 1;
    }

    private static boolean contains(int mask, int position) {
        return (mask & (1 << position)) != 0;
    }

    /** Whether player 0 can make the next position one of the targets. */
    private boolean isForcedInto(int targets, int position) {
        boolean first = contains(targets, firstMoves[position]);
        boolean second = contains(targets, secondMoves[position]);
        return contains(owners, position) ? first && second : first || second;
    }

    private boolean holdsFor(int positions, int player, int choices) {
        int won = wonByPlan(player, choices, owners);
        return (positions & ~won) == 0;
    }

    private int wonBy(int player) {
        int won = wonByPlayer0(owners);
        return player == 0 ? won : ALL_POSITIONS & ~won;
    }

    /**
     * The positions from which player 0 wins if the positions of player 1 are those of the mask.
     * Who wins from a position can do so with a plan, so trying every plan finds them all.
     */
    private int wonByPlayer0(int positionsOf1) {
        int won = 0;
        for (int choices = 0; choices <= LAST_PLAN; choices++) {
            won |= wonByPlan(0, choices, positionsOf1);
        }
        return won;
    }

    /** The positions from which the player wins every play in which it moves by the plan. */
    private int wonByPlan(int player, int choices, int positionsOf1) {
        layOutMoves(player, choices, positionsOf1);
        int lost = 0;
        // Passing through the low colours first, a position that reaches itself when its own
        // colour has just been let in is on a round trip whose greatest colour is its own.
        for (int colour = 0; colour < COLOURS; colour++) {
            letPassThrough(colour);
            if ((colour & 1) != player) {
                lost |= onRoundTrip(colour);
            }
        }
        return ALL_POSITIONS & ~reaching(lost);
    }

    /** The first steps of all plays that keep to the plan. */
    private void layOutMoves(int player, int choices, int positionsOf1) {
        for (int p = 0; p < POSITIONS; p++) {
            int first = 1 << firstMoves[p];
            int second = 1 << secondMoves[p];
            if (bit(positionsOf1, p) != player) {
                reach[p] = first | second;
            } else {
                reach[p] = contains(choices, p) ? second : first;
            }
        }
    }

    private void letPassThrough(int colour) {
        for (int middle = 0; middle < POSITIONS; middle++) {
            if (colours[middle] != colour) {
                continue;
            }
            for (int p = 0; p < POSITIONS; p++) {
                if (contains(reach[p], middle)) {
                    reach[p] |= reach[middle];
                }
            }
        }
    }

    private int onRoundTrip(int colour) {
        int found = 0;
        for (int p = 0; p < POSITIONS; p++) {
            if (colours[p] == colour && contains(reach[p], p)) {
                found |= 1 << p;
            }
        }
        return found;
    }

    private int reaching(int targets) {
        int found = 0;
        for (int p = 0; p < POSITIONS; p++) {
            if ((reach[p] & targets) != 0) {
                found |= 1 << p;
            }
        }
        return found;
    }
}
