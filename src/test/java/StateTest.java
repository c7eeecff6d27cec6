/** Promises 1 to 5: what a position is, and the calls that change it. */
final class StateTest {
    private static final Checks checks = new Checks();

    public static void main(String[] args) {
        newObject();
        objectsAreApart();
        setGivesPlayerAndColour();
        setGivesMoves();
        setRefuses();
        paintChanges();
        paintRefuses();
        handChanges();
        handRefuses();
        mirrorChanges();
        checks.end();
    }

    private static int playerOf(ParityGame game, int position) {
        game.hand(position);
        return game.hand(position);
    }

    private static int colourOf(ParityGame game, int position) {
        int colour = game.paint(position, 0);
        game.paint(position, colour);
        return colour;
    }

    private static void checkPosition(String what, ParityGame game, int position, int player, int colour) {
        checks.same(what + ": player of " + position, playerOf(game, position), player);
        checks.same(what + ": colour of " + position, colourOf(game, position), colour);
    }

    /** The moves of a position, seen by what player 0 could reach from it in one step. */
    private static void checkMoves(String what, ParityGame game, int position, int first, int second) {
        int player = playerOf(game, position);
        // The other positions become dead ends, and this one player 0's, so that only its moves count.
        for (int p = 0; p < 8; p++) {
            if (p != position) {
                game.set(p, 0, 0, Inputs.both(p, p));
            }
        }
        if (player == 1) {
            game.hand(position);
        }
        for (int b = 0; b < 8; b++) {
            boolean due = b == position || b == first || b == second;
            checks.same(what + ": from " + position + " to " + b, game.canForce(position, b), due);
        }
        checkOrderOfMoves(what, game, position, first, second);
    }

    /** If only one of the two moves wins, firstPlan tells which one it is. */
    private static void checkOrderOfMoves(String what, ParityGame game, int position, int first, int second) {
        if (first == second || first == position || second == position) {
            return;
        }
        game.paint(first, 1);
        checks.same(what + ": plan if the first move loses", game.firstPlan(0), 1 << position);
        game.paint(first, 0);
        game.paint(second, 1);
        checks.same(what + ": plan if the second move loses", game.firstPlan(0), 0);
        checks.same(what + ": second move is bad", game.good(0, 1 << position), false);
    }

    private static void newObject() {
        ParityGame game = new ParityGame();
        checks.same("new: region", game.region(), 255);
        checks.same("new: plans(0)", game.plans(0), 256);
        checks.same("new: plans(1)", game.plans(1), 256);
        checks.same("new: firstPlan(0)", game.firstPlan(0), 0);
        checks.same("new: firstPlan(1)", game.firstPlan(1), 0);
        checks.same("new: contested", game.contested(), 0);
        for (int p = 0; p < 8; p++) {
            checks.same("new: winner", game.winner(p), 0);
            checkPosition("new", game, p, 0, 0);
            for (int b = 0; b < 8; b++) {
                checks.same("new: canForce(" + p + ", " + b + ")", game.canForce(p, b), p == b);
            }
        }
    }

    private static void objectsAreApart() {
        ParityGame one = new ParityGame();
        ParityGame other = new ParityGame();
        one.set(0, 1, 5, Inputs.both(1, 2));
        checkPosition("another object", other, 0, 0, 0);
        checks.same("another object: region", other.region(), 255);
    }

    private static void setGivesPlayerAndColour() {
        for (int p = 0; p < 8; p++) {
            for (int player = 0; player < 2; player++) {
                for (int colour = 0; colour < 6; colour++) {
                    ParityGame game = new ParityGame();
                    game.set(p, 1 - player, 5 - colour, 0);
                    checks.same("set", game.set(p, player, colour, Inputs.both(p, p)), 0);
                    checkPosition("set", game, p, player, colour);
                    checkPosition("set leaves the others", game, (p + 1) % 8, 0, 0);
                    checks.same("set: winner", game.winner(p), colour % 2);
                }
            }
        }
    }

    private static void setGivesMoves() {
        int[] more = {0, 64, 1 << 30, Integer.MIN_VALUE, -64};
        for (int moves = 0; moves < 64; moves++) {
            for (int high : more) {
                int p = (moves + 3) % 8;
                ParityGame game = new ParityGame();
                checks.same("set", game.set(p, moves % 2, 0, high | moves), 0);
                checkMoves("set moves " + (high | moves), game, p, moves % 8, moves / 8);
            }
        }
        ParityGame game = new ParityGame();
        game.set(2, 0, 0, -1);
        checkMoves("set moves -1", game, 2, 7, 7);
    }

    private static void setRefuses() {
        ParityGame game = new ParityGame();
        game.set(3, 1, 4, Inputs.both(5, 6));
        for (int position : Inputs.NOT_POSITIONS) {
            checks.same("set bad position", game.set(position, 0, 0, 0), -1);
            checks.same("set all bad", game.set(position, 2, 6, 0), -1);
            checks.same("set bad position and player", game.set(position, -1, 0, 0), -1);
            checks.same("set bad position and colour", game.set(position, 0, -1, 0), -1);
        }
        for (int player : Inputs.NOT_PLAYERS) {
            checks.same("set bad player", game.set(3, player, 0, 0), -3);
            checks.same("set bad player and colour", game.set(3, player, 6, 0), -3);
        }
        for (int colour : Inputs.NOT_COLOURS) {
            checks.same("set bad colour", game.set(3, 0, colour, 0), -2);
        }
        for (int p = 0; p < 8; p++) {
            checkPosition("refused set", game, p, p == 3 ? 1 : 0, p == 3 ? 4 : 0);
        }
        checkMoves("refused set", game, 3, 5, 6);
    }

    private static void paintChanges() {
        ParityGame game = new ParityGame();
        game.set(6, 1, 2, Inputs.both(1, 4));
        int old = 2;
        for (int colour = 0; colour < 6; colour++) {
            checks.same("paint", game.paint(6, colour), old);
            checks.same("paint the same again", game.paint(6, colour), colour);
            old = colour;
        }
        for (int p = 0; p < 8; p++) {
            checkPosition("paint", game, p, p == 6 ? 1 : 0, p == 6 ? 5 : 0);
        }
        checkMoves("paint", game, 6, 1, 4);
    }

    private static void paintRefuses() {
        ParityGame game = new ParityGame();
        game.paint(0, 3);
        game.paint(7, 4);
        for (int position : Inputs.NOT_POSITIONS) {
            checks.same("paint bad position", game.paint(position, 0), -1);
            checks.same("paint both bad", game.paint(position, 6), -1);
        }
        for (int colour : Inputs.NOT_COLOURS) {
            checks.same("paint bad colour", game.paint(7, colour), -2);
        }
        checkPosition("refused paint", game, 0, 0, 3);
        checkPosition("refused paint", game, 7, 0, 4);
    }

    private static void handChanges() {
        for (int p = 0; p < 8; p++) {
            ParityGame game = new ParityGame();
            game.set(p, 0, 3, Inputs.both((p + 1) % 8, (p + 2) % 8));
            checks.same("hand to 1", game.hand(p), 1);
            checks.same("player 1 may go elsewhere", game.canForce(p, (p + 1) % 8), false);
            checks.same("hand to 0", game.hand(p), 0);
            checks.same("player 0 chooses", game.canForce(p, (p + 1) % 8), true);
            game.hand(p);
            for (int q = 0; q < 8; q++) {
                checkPosition("hand", game, q, q == p ? 1 : 0, q == p ? 3 : 0);
            }
            checkMoves("hand", game, p, (p + 1) % 8, (p + 2) % 8);
        }
    }

    private static void handRefuses() {
        ParityGame game = new ParityGame();
        game.hand(5);
        for (int position : Inputs.NOT_POSITIONS) {
            checks.same("hand bad position", game.hand(position), -1);
        }
        for (int p = 0; p < 8; p++) {
            checkPosition("refused hand", game, p, p == 5 ? 1 : 0, 0);
        }
    }

    private static void mirrorChanges() {
        ParityGame game = new ParityGame();
        for (int p = 0; p < 8; p++) {
            game.set(p, p / 2 % 2, p % 6, Inputs.both((p + 3) % 8, (p + 5) % 8));
        }
        for (int times = 1; times <= 6; times++) {
            game.mirror();
            for (int p = 0; p < 8; p++) {
                checkPosition("mirror " + times, game, p, (p / 2 + times) % 2, (p % 6 + times) % 6);
            }
        }
        for (int p = 0; p < 8; p++) {
            ParityGame again = new ParityGame();
            again.set(p, 1, 5, Inputs.both((p + 3) % 8, (p + 5) % 8));
            again.mirror();
            checkPosition("mirror", again, p, 0, 0);
            checkPosition("mirror", again, (p + 1) % 8, 1, 1);
            checkMoves("mirror", again, p, (p + 3) % 8, (p + 5) % 8);
        }
    }
}
