import java.util.function.Consumer;
import java.util.function.Supplier;

/** Reads what a game holds by its public calls alone. */
final class Reader {
    private Reader() {
    }

    static int playerOf(ParityGame game, int position) {
        game.hand(position);
        return game.hand(position);
    }

    static int colourOf(ParityGame game, int position) {
        int colour = game.paint(position, 0);
        game.paint(position, colour);
        return colour;
    }

    /** A position's two moves, as set takes them; what else the game held is gone then. */
    static int movesOf(ParityGame game, int position) {
        for (int p = 0; p < 8; p++) {
            if (p != position) {
                game.set(p, 0, 1, Inputs.both(p, p));
            }
        }
        if (playerOf(game, position) == 1) {
            game.hand(position);
        }
        game.paint(position, 1);
        return Inputs.both(moveOf(game, position, 0), moveOf(game, position, 1 << position));
    }

    /** If staying at 'b' is all that wins, a plan is good only if it goes there; 8 if none does. */
    private static int moveOf(ParityGame game, int position, int choices) {
        for (int b = 0; b < 8; b++) {
            game.paint(b, 0);
            boolean leads = game.winner(position) == 0 && game.good(0, choices);
            game.paint(b, 1);
            if (leads) {
                return b;
            }
        }
        return 8;
    }

    /** Holds each position against the one due; reading moves spoils a game, so each has one of its own. */
    static void checkState(Checks checks, String what, Supplier<ParityGame> make, Reference due) {
        for (int p = 0; p < 8; p++) {
            ParityGame game = make.get();
            int moves = Inputs.both(due.move[p][0], due.move[p][1]);
            checks.same(what + ": player of " + p, playerOf(game, p), due.player[p]);
            checks.same(what + ": colour of " + p, colourOf(game, p), due.colour[p]);
            checks.same(what + ": moves of " + p, movesOf(game, p), moves);
        }
    }

    /** Holds what the calls that change nothing answer, 136 calls, against what is due. */
    static void checkAnswers(Checks checks, String what, ParityGame game, Reference due) {
        checks.same(what + ": region()", game.region(), due.region());
        checks.same(what + ": contested()", game.contested(), due.contested());
        for (int a = 0; a < 8; a++) {
            checks.same(what + ": winner(" + a + ")", game.winner(a), due.winner(a));
            for (int b = 0; b < 8; b++) {
                checks.same(what + ": canForce(" + a + ", " + b + ")", game.canForce(a, b), due.canForce(a, b));
            }
        }
        for (int player = 0; player < 2; player++) {
            checks.same(what + ": plans(" + player + ")", game.plans(player), due.plans(player));
            checks.same(what + ": firstPlan(" + player + ")", game.firstPlan(player), due.firstPlan(player));
            for (int choices = 0; choices < 256; choices += 9) {
                checks.same(what + ": good(" + player + ", " + choices + ")", game.good(player, choices),
                    due.good(player, choices));
            }
        }
    }

    /** What the change has done to the mixed game is what is due, and nothing else has changed. */
    static void checkMixed(Checks checks, String what, Consumer<ParityGame> change, Consumer<Reference> due) {
        Supplier<ParityGame> make = () -> {
            ParityGame game = Games.mixed();
            change.accept(game);
            return game;
        };
        Reference reference = Games.mixedReference();
        due.accept(reference);
        checkState(checks, what, make, reference);
        checkAnswers(checks, what, make.get(), reference);
    }

    static void checkMixedUnchanged(Checks checks, String what, Consumer<ParityGame> call) {
        checkMixed(checks, what, call, reference -> { });
    }
}
