/**
 * The document's game again, written from its terms and in another way than the program: it
 * follows single plays, one for each pair of plans, and looks at the round trip each ends in.
 */
final class Reference {
    final int[] player = new int[8];
    final int[] colour = new int[8];
    final int[][] move = new int[8][2];

    Reference() {
        for (int p = 0; p < 8; p++) {
            move[p][0] = p;
            move[p][1] = p;
        }
    }

    static boolean inRange(int value, int end) {
        return value >= 0 && value < end;
    }

    int set(int position, int newPlayer, int newColour, int moves) {
        if (!inRange(position, 8)) {
            return -1;
        }
        if (!inRange(newPlayer, 2)) {
            return -3;
        }
        if (!inRange(newColour, 6)) {
            return -2;
        }
        player[position] = newPlayer;
        colour[position] = newColour;
        move[position][0] = moves & 7;
        move[position][1] = (moves >> 3) & 7;
        return 0;
    }

    int paint(int position, int newColour) {
        if (!inRange(position, 8)) {
            return -1;
        }
        if (!inRange(newColour, 6)) {
            return -2;
        }
        int old = colour[position];
        colour[position] = newColour;
        return old;
    }

    int hand(int position) {
        if (!inRange(position, 8)) {
            return -1;
        }
        player[position] = 1 - player[position];
        return player[position];
    }

    void mirror() {
        for (int p = 0; p < 8; p++) {
            player[p] = 1 - player[p];
            colour[p] = (colour[p] + 1) % 6;
        }
    }

    /** Who wins the play from a position if bit p of choices tells the move at p, whoever has p. */
    private int winnerOfPlay(int start, int choices) {
        int at = start;
        for (int step = 0; step < 8; step++) {
            at = move[at][(choices >> at) & 1];
        }
        int greatest = 0;
        for (int step = 0; step < 8; step++) {
            greatest = Math.max(greatest, colour[at]);
            at = move[at][(choices >> at) & 1];
        }
        return greatest % 2;
    }

    private int positionsOf(int who) {
        int mask = 0;
        for (int p = 0; p < 8; p++) {
            if (player[p] == who) {
                mask |= 1 << p;
            }
        }
        return mask;
    }

    /** For each of the 256 plans of the player, the positions from which the plan wins. */
    private int[] wonByPlans(int who) {
        int own = positionsOf(who);
        int[] won = new int[256];
        java.util.Arrays.fill(won, 255);
        for (int all = 0; all < 256; all++) {
            for (int start = 0; start < 8; start++) {
                if (winnerOfPlay(start, all) != who) {
                    won[all & own] &= ~(1 << start);
                }
            }
        }
        for (int choices = 0; choices < 256; choices++) {
            won[choices] = won[choices & own];
        }
        return won;
    }

    private static int union(int[] masks) {
        int all = 0;
        for (int mask : masks) {
            all |= mask;
        }
        return all;
    }

    int region() {
        return union(wonByPlans(0));
    }

    int wonBy(int who) {
        return union(wonByPlans(who));
    }

    int winner(int position) {
        return !inRange(position, 8) ? -1 : 1 - ((region() >> position) & 1);
    }

    boolean good(int who, int choices) {
        if (!inRange(who, 2)) {
            return false;
        }
        int[] won = wonByPlans(who);
        return won[choices & 255] == union(won);
    }

    int plans(int who) {
        if (!inRange(who, 2)) {
            return -3;
        }
        int[] won = wonByPlans(who);
        int all = union(won);
        int count = 0;
        for (int mask : won) {
            count += mask == all ? 1 : 0;
        }
        return count;
    }

    int firstPlan(int who) {
        if (!inRange(who, 2)) {
            return -3;
        }
        int[] won = wonByPlans(who);
        int all = union(won);
        for (int choices = 0; choices < 256; choices++) {
            if (won[choices] == all) {
                return choices;
            }
        }
        return 256;
    }

    boolean canForce(int a, int b) {
        return inRange(a, 8) && inRange(b, 8) && comesTo(a, b, 8);
    }

    private boolean comesTo(int a, int b, int steps) {
        if (a == b) {
            return true;
        }
        if (steps == 0) {
            return false;
        }
        boolean first = comesTo(move[a][0], b, steps - 1);
        boolean second = comesTo(move[a][1], b, steps - 1);
        return player[a] == 0 ? first || second : first && second;
    }

    int contested() {
        int before = region();
        int count = 0;
        for (int p = 0; p < 8; p++) {
            hand(p);
            count += region() != before ? 1 : 0;
            hand(p);
        }
        return count;
    }

    /** The positions among 'inside' from which player 0 wins: the method of taking off attractors. */
    int regionByAttractors(int inside) {
        if (inside == 0) {
            return 0;
        }
        int top = 0;
        for (int p = 0; p < 8; p++) {
            if ((inside >> p & 1) == 1) {
                top = Math.max(top, colour[p]);
            }
        }
        int who = top % 2;
        int tops = 0;
        for (int p = 0; p < 8; p++) {
            if ((inside >> p & 1) == 1 && colour[p] == top) {
                tops |= 1 << p;
            }
        }
        int rest = inside & ~attracted(tops, who, inside);
        int wonBy0 = regionByAttractors(rest);
        int wonByOther = who == 0 ? rest & ~wonBy0 : wonBy0;
        if (wonByOther == 0) {
            return who == 0 ? inside : 0;
        }
        int taken = attracted(wonByOther, 1 - who, inside);
        int left = regionByAttractors(inside & ~taken);
        return who == 0 ? left : left | taken;
    }

    private int attracted(int targets, int who, int inside) {
        int mask = targets;
        for (int round = 0; round < 8; round++) {
            for (int p = 0; p < 8; p++) {
                int open = ((1 << move[p][0]) | (1 << move[p][1])) & inside;
                boolean some = (open & mask) != 0;
                boolean all = (open & ~mask) == 0;
                if ((inside >> p & 1) == 1 && (player[p] == who ? some : all)) {
                    mask |= 1 << p;
                }
            }
        }
        return mask;
    }
}
