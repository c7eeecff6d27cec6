/** Promises 6 to 12 on ordinary games, small enough to think through; AnswersEdgesTest has the edges. */
final class AnswersTest {
    private static final Checks checks = new Checks();

    public static void main(String[] args) {
        exampleOfTheReadme();
        greatestColourDecides();
        winningMayNeedToLeave();
        lettingGoIsNotWinning();
        goodPlans();
        forcing();
        contestedPositions();
        checks.end();
    }

    /** The game in README.md, call by call. */
    private static void exampleOfTheReadme() {
        ParityGame game = new ParityGame();
        checks.same("README: set(0, 1, 3, 17)", game.set(0, 1, 3, 1 | 2 << 3), 0);
        checks.same("README: set(1, 0, 2, 8)", game.set(1, 0, 2, 0 | 1 << 3), 0);
        checks.same("README: region()", game.region(), 255);
        checks.same("README: winner(1)", game.winner(1), 0);
        checks.same("README: firstPlan(0)", game.firstPlan(0), 2);
        checks.same("README: good(0, 0)", game.good(0, 0), false);
        checks.same("README: canForce(0, 1)", game.canForce(0, 1), false);
        checks.same("README: contested()", game.contested(), 1);
        checks.same("README: hand(1)", game.hand(1), 1);
        checks.same("README: region() then", game.region(), 252);
    }

    private static void checkWinners(String what, ParityGame game, int region) {
        checks.same(what + ": region", game.region(), region);
        for (int p = 0; p < 8; p++) {
            checks.same(what + ": winner(" + p + ")", game.winner(p), Inputs.has(region, p) ? 0 : 1);
        }
    }

    /** A ring of all eight positions: the greatest colour of all decides for each. */
    private static void greatestColourDecides() {
        for (int greatest = 0; greatest < 6; greatest++) {
            for (int at = 0; at < 8; at++) {
                ParityGame game = new ParityGame();
                for (int p = 0; p < 8; p++) {
                    int next = (p + 1) % 8;
                    int low = greatest == 0 ? 0 : greatest - 1;
                    game.set(p, p % 2, p == at ? greatest : low, Inputs.both(next, next));
                }
                checkWinners("ring of " + greatest, game, greatest % 2 == 0 ? 255 : 0);
                checks.same("ring: plans(0)", game.plans(0), 256);
                checks.same("ring: plans(1)", game.plans(1), 256);
                checks.same("ring: contested", game.contested(), 0);
            }
        }
    }

    /**
     * Player 0 has 0 (colour 1), which may stay or go to 1. Player 1 has 1 (colour 2), which goes
     * back to 0, or stays. Going to 1 wins: 2 is the greatest whatever player 1 does.
     */
    private static ParityGame stayOrGo() {
        ParityGame game = new ParityGame();
        game.set(0, 0, 1, Inputs.both(0, 1));
        game.set(1, 1, 2, Inputs.both(0, 1));
        return game;
    }

    private static void winningMayNeedToLeave() {
        ParityGame game = stayOrGo();
        checkWinners("stay or go", game, 255);
        checks.same("stay or go: firstPlan(0)", game.firstPlan(0), 1);
        checks.same("stay or go: plans(0)", game.plans(0), 128);
        game.paint(1, 0);
        checkWinners("stay or go, 1 of colour 0", game, 252);
        game.paint(1, 3);
        checkWinners("stay or go, 1 of colour 3", game, 252);
        game.paint(0, 4);
        checkWinners("stay or go, 0 of colour 4", game, 253);
    }

    /** Player 0 at 0 could win only if player 1 at 1 were kind. */
    private static void lettingGoIsNotWinning() {
        ParityGame game = new ParityGame();
        game.set(0, 0, 5, Inputs.both(1, 1));
        game.set(1, 1, 0, Inputs.both(2, 3));
        game.set(2, 1, 4, Inputs.both(2, 2));
        game.set(3, 1, 5, Inputs.both(3, 3));
        checkWinners("kind", game, 255 & ~11);
        game.hand(1);
        checkWinners("own choice", game, 255 & ~8);
    }

    /**
     * Player 0: 0 goes to 2 (lost) or 3 (won), 1 goes to 3 (won) or 2 (lost); player 1: 4 goes to
     * 3 or 2, 5 goes to 2 or 3. All of 0, 1 are player 0's to win, 4, 5 player 1's.
     */
    private static ParityGame crossing() {
        ParityGame game = new ParityGame();
        game.set(0, 0, 0, Inputs.both(2, 3));
        game.set(1, 0, 0, Inputs.both(3, 2));
        game.set(2, 0, 1, Inputs.both(2, 2));
        game.set(3, 0, 2, Inputs.both(3, 3));
        game.set(4, 1, 0, Inputs.both(3, 2));
        game.set(5, 1, 0, Inputs.both(2, 3));
        return game;
    }

    private static void goodPlans() {
        ParityGame game = crossing();
        checkWinners("crossing", game, 255 & ~(4 | 16 | 32));
        for (int choices = 0; choices < 256; choices++) {
            checks.same("good(0, " + choices + ")", game.good(0, choices), (choices & 3) == 1);
            checks.same("good(1, " + choices + ")", game.good(1, choices), (choices & 48) == 16);
        }
        checks.same("crossing: plans(0)", game.plans(0), 64);
        checks.same("crossing: plans(1)", game.plans(1), 64);
        checks.same("crossing: firstPlan(0)", game.firstPlan(0), 1);
        checks.same("crossing: firstPlan(1)", game.firstPlan(1), 16);
    }

    /** Player 1 at 0 goes to 1 or 2; player 0 at 1 to 3 or 1; player 0 at 2 to 4 or 1; 3, 4 stay. */
    private static void forcing() {
        ParityGame game = new ParityGame();
        game.set(0, 1, 0, Inputs.both(1, 2));
        game.set(1, 0, 0, Inputs.both(3, 1));
        game.set(2, 0, 0, Inputs.both(4, 1));
        int[] due = {1 | 2 | 8, 2 | 8, 2 | 4 | 8 | 16, 8, 16, 32, 64, 128};
        for (int a = 0; a < 8; a++) {
            for (int b = 0; b < 8; b++) {
                checks.same("canForce(" + a + ", " + b + ")", game.canForce(a, b), Inputs.has(due[a], b));
            }
        }
        game.hand(1);
        checks.same("player 1 may stay at 1", game.canForce(0, 3), false);
        checks.same("player 1 comes to 1", game.canForce(0, 1), true);
        longWay();
    }

    /** The way against the order of the positions, 7 steps long, with forced steps of player 1. */
    private static void longWay() {
        ParityGame down = new ParityGame();
        ParityGame up = new ParityGame();
        for (int p = 0; p < 8; p++) {
            down.set(p, p % 2, 0, Inputs.both((p + 7) % 8, (p + 7) % 8));
            up.set(p, p % 2, 0, Inputs.both((p + 1) % 8, (p + 1) % 8));
        }
        for (int a = 0; a < 8; a++) {
            for (int b = 0; b < 8; b++) {
                checks.same("down " + a + " to " + b, down.canForce(a, b), true);
                checks.same("up " + a + " to " + b, up.canForce(a, b), true);
            }
        }
    }

    private static void contestedPositions() {
        checks.same("crossing: contested", crossing().contested(), 4);
        // Handing over 0 lets player 1 stay there; handing over 1 changes nothing.
        checks.same("stay or go: contested", stayOrGo().contested(), 1);
        ParityGame game = crossing();
        game.paint(2, 0);
        checks.same("nothing at stake: contested", game.contested(), 0);
    }
}
