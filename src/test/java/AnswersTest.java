/** Promises 6 to 12: the calls that only answer, on games small enough to think through. */
final class AnswersTest {
    private static final Checks checks = new Checks();

    public static void main(String[] args) {
        greatestColourDecides();
        onlyColoursWithoutEndCount();
        winningMayNeedToLeave();
        lettingGoIsNotWinning();
        winnerRefuses();
        goodPlans();
        otherBitsDoNotCount();
        fewPlansOrAllPlans();
        playersRefused();
        forcing();
        forcingRefuses();
        contestedPositions();
        answersChangeNothing();
        checks.end();
    }

    private static void checkWinners(String what, ParityGame game, int region) {
        checks.same(what + ": region", game.region(), region);
        for (int p = 0; p < 8; p++) {
            checks.same(what + ": winner(" + p + ")", game.winner(p), (region >> p & 1) == 1 ? 0 : 1);
        }
    }

    /** A ring of all eight positions: the greatest colour of all decides for each. */
    private static void greatestColourDecides() {
        for (int greatest = 0; greatest < 6; greatest++) {
            for (int at = 0; at < 8; at++) {
                ParityGame game = new ParityGame();
                for (int p = 0; p < 8; p++) {
                    int next = (p + 1) % 8;
                    int low = greatest == 0 ? 0 : greatest - 1;
                    game.set(p, p % 2, p == at ? greatest : low, Inputs.both(next, next));
                }
                checkWinners("ring of " + greatest, game, greatest % 2 == 0 ? 255 : 0);
                checks.same("ring: plans(0)", game.plans(0), 256);
                checks.same("ring: plans(1)", game.plans(1), 256);
                checks.same("ring: contested", game.contested(), 0);
            }
        }
    }

    /** 0 to 1 to ... to 7 and there for ever: only the colour of 7 comes up without end. */
    private static void onlyColoursWithoutEndCount() {
        for (int last = 0; last < 6; last++) {
            ParityGame game = new ParityGame();
            for (int p = 0; p < 7; p++) {
                game.set(p, 1 - last % 2, 5 - last % 2, Inputs.both(p + 1, p + 1));
            }
            game.set(7, 0, last, Inputs.both(7, 7));
            checkWinners("path to " + last, game, last % 2 == 0 ? 255 : 0);
        }
    }

    /**
     * Player 0 has 0 (colour 1), which may stay or go to 1. Player 1 has 1 (colour 2), which goes
     * back to 0, or stays. Going to 1 wins: 2 is the greatest whatever player 1 does.
     */
    private static ParityGame stayOrGo() {
        ParityGame game = new ParityGame();
        game.set(0, 0, 1, Inputs.both(0, 1));
        game.set(1, 1, 2, Inputs.both(0, 1));
        return game;
    }

    private static void winningMayNeedToLeave() {
        ParityGame game = stayOrGo();
        checkWinners("stay or go", game, 255);
        checks.same("stay or go: firstPlan(0)", game.firstPlan(0), 1);
        checks.same("stay or go: plans(0)", game.plans(0), 128);
        game.paint(1, 0);
        checkWinners("stay or go, 1 of colour 0", game, 252);
        game.paint(1, 3);
        checkWinners("stay or go, 1 of colour 3", game, 252);
        game.paint(0, 4);
        checkWinners("stay or go, 0 of colour 4", game, 253);
    }

    /** Player 0 at 0 could win only if player 1 at 1 were kind. */
    private static void lettingGoIsNotWinning() {
        ParityGame game = new ParityGame();
        game.set(0, 0, 5, Inputs.both(1, 1));
        game.set(1, 1, 0, Inputs.both(2, 3));
        game.set(2, 1, 4, Inputs.both(2, 2));
        game.set(3, 1, 5, Inputs.both(3, 3));
        checkWinners("kind", game, 255 & ~11);
        game.hand(1);
        checkWinners("own choice", game, 255 & ~8);
    }

    private static void winnerRefuses() {
        ParityGame game = stayOrGo();
        for (int position : Inputs.NOT_POSITIONS) {
            checks.same("winner(" + position + ")", game.winner(position), -1);
        }
    }

    /**
     * Player 0: 0 goes to 2 (lost) or 3 (won), 1 goes to 3 (won) or 2 (lost); player 1: 4 goes to
     * 3 or 2, 5 goes to 2 or 3. All of 0, 1 are player 0's to win, 4, 5 player 1's.
     */
    private static ParityGame crossing() {
        ParityGame game = new ParityGame();
        game.set(0, 0, 0, Inputs.both(2, 3));
        game.set(1, 0, 0, Inputs.both(3, 2));
        game.set(2, 0, 1, Inputs.both(2, 2));
        game.set(3, 0, 2, Inputs.both(3, 3));
        game.set(4, 1, 0, Inputs.both(3, 2));
        game.set(5, 1, 0, Inputs.both(2, 3));
        return game;
    }

    private static void goodPlans() {
        ParityGame game = crossing();
        checkWinners("crossing", game, 255 & ~(4 | 16 | 32));
        for (int choices = 0; choices < 256; choices++) {
            checks.same("good(0, " + choices + ")", game.good(0, choices), (choices & 3) == 1);
            checks.same("good(1, " + choices + ")", game.good(1, choices), (choices & 48) == 16);
        }
        checks.same("crossing: plans(0)", game.plans(0), 64);
        checks.same("crossing: plans(1)", game.plans(1), 64);
        checks.same("crossing: firstPlan(0)", game.firstPlan(0), 1);
        checks.same("crossing: firstPlan(1)", game.firstPlan(1), 16);
    }

    /** Player 0 climbs from 0 to 7: two plans of 256 are good, then only the last, then all. */
    private static void fewPlansOrAllPlans() {
        ParityGame game = new ParityGame();
        for (int p = 0; p < 8; p++) {
            game.set(p, 0, p == 7 ? 2 : 1, Inputs.both(p == 7 ? 0 : p, p == 7 ? 7 : p + 1));
        }
        checkWinners("stairs", game, 255);
        checks.same("stairs: firstPlan(0)", game.firstPlan(0), 127);
        checks.same("stairs: plans(0)", game.plans(0), 2);
        game.paint(7, 0);
        checks.same("stairs, end 0: firstPlan(0)", game.firstPlan(0), 255);
        checks.same("stairs, end 0: plans(0)", game.plans(0), 1);
        checks.same("stairs: plans(1)", game.plans(1), 256);
        game.paint(7, 1);
        checkWinners("stairs, nothing won", game, 0);
        checks.same("nothing won: plans(0)", game.plans(0), 256);
        checks.same("nothing won: firstPlan(0)", game.firstPlan(0), 0);
        checks.same("nothing won: good(0, 77)", game.good(0, 77), true);
        onlyTheFirstPlan();
    }

    /** The same stairs with the two moves changed over. */
    private static void onlyTheFirstPlan() {
        ParityGame game = new ParityGame();
        for (int p = 0; p < 8; p++) {
            game.set(p, 0, p == 7 ? 0 : 1, Inputs.both(p == 7 ? 7 : p + 1, p == 7 ? 0 : p));
        }
        checkWinners("stairs by first moves", game, 255);
        checks.same("stairs by first moves: firstPlan(0)", game.firstPlan(0), 0);
        checks.same("stairs by first moves: plans(0)", game.plans(0), 1);
    }

    private static void otherBitsDoNotCount() {
        ParityGame game = crossing();
        int[] more = {0, 256, -256, 1 << 30, Integer.MIN_VALUE};
        for (int high : more) {
            checks.same("good with high bits", game.good(0, high | 1), true);
            checks.same("good with high bits", game.good(0, high | 2), false);
        }
        checks.same("good(0, -1)", game.good(0, -1), false);
        checks.same("good(0, -3)", game.good(0, -3), true);
    }

    private static void playersRefused() {
        ParityGame game = new ParityGame();
        for (int player : Inputs.NOT_PLAYERS) {
            checks.same("good(" + player + ", 0)", game.good(player, 0), false);
            checks.same("plans(" + player + ")", game.plans(player), -3);
            checks.same("firstPlan(" + player + ")", game.firstPlan(player), -3);
        }
    }

    /** Player 1 at 0 goes to 1 or 2; player 0 at 1 to 3 or 1; player 0 at 2 to 4 or 1; 3, 4 stay. */
    private static void forcing() {
        ParityGame game = new ParityGame();
        game.set(0, 1, 0, Inputs.both(1, 2));
        game.set(1, 0, 0, Inputs.both(3, 1));
        game.set(2, 0, 0, Inputs.both(4, 1));
        int[] due = {1 | 2 | 8, 2 | 8, 2 | 4 | 8 | 16, 8, 16, 32, 64, 128};
        for (int a = 0; a < 8; a++) {
            for (int b = 0; b < 8; b++) {
                checks.same("canForce(" + a + ", " + b + ")", game.canForce(a, b), (due[a] >> b & 1) == 1);
            }
        }
        game.hand(1);
        checks.same("player 1 may stay at 1", game.canForce(0, 3), false);
        checks.same("player 1 comes to 1", game.canForce(0, 1), true);
        longWay();
    }

    /** The way against the order of the positions, 7 steps long, with forced steps of player 1. */
    private static void longWay() {
        ParityGame down = new ParityGame();
        ParityGame up = new ParityGame();
        for (int p = 0; p < 8; p++) {
            down.set(p, p % 2, 0, Inputs.both((p + 7) % 8, (p + 7) % 8));
            up.set(p, p % 2, 0, Inputs.both((p + 1) % 8, (p + 1) % 8));
        }
        for (int a = 0; a < 8; a++) {
            for (int b = 0; b < 8; b++) {
                checks.same("down " + a + " to " + b, down.canForce(a, b), true);
                checks.same("up " + a + " to " + b, up.canForce(a, b), true);
            }
        }
    }

    private static void forcingRefuses() {
        ParityGame game = new ParityGame();
        for (int position : Inputs.NOT_POSITIONS) {
            checks.same("canForce(" + position + ", 0)", game.canForce(position, 0), false);
            checks.same("canForce(0, " + position + ")", game.canForce(0, position), false);
            checks.same("canForce twice " + position, game.canForce(position, position), false);
        }
    }

    private static void contestedPositions() {
        checks.same("crossing: contested", crossing().contested(), 4);
        // Handing over 0 lets player 1 stay there; handing over 1 changes nothing.
        checks.same("stay or go: contested", stayOrGo().contested(), 1);
        ParityGame game = crossing();
        game.paint(2, 0);
        checks.same("nothing at stake: contested", game.contested(), 0);
        all8Contested();
    }

    /** A ring that each player would leave for its own colour 0 or 1 if it could. */
    private static void all8Contested() {
        ParityGame game = new ParityGame();
        for (int p = 0; p < 6; p++) {
            game.set(p, p % 2, 0, Inputs.both(6, 7));
        }
        game.set(6, 0, 0, Inputs.both(6, 7));
        game.set(7, 1, 1, Inputs.both(7, 6));
        checks.same("all contested", game.contested(), 8);
    }

    private static void answersChangeNothing() {
        ParityGame game = crossing();
        for (int round = 0; round < 2; round++) {
            checkWinners("again", game, 255 & ~(4 | 16 | 32));
            checks.same("again: contested", game.contested(), 4);
            checks.same("again: plans(0)", game.plans(0), 64);
            checks.same("again: plans(1)", game.plans(1), 64);
            checks.same("again: firstPlan(1)", game.firstPlan(1), 16);
            checks.same("again: good(1, 16)", game.good(1, 16), true);
            checks.same("again: canForce(0, 3)", game.canForce(0, 3), true);
        }
        for (int p = 0; p < 8; p++) {
            checks.same("again: player", game.hand(p), p == 4 || p == 5 ? 0 : 1);
            checks.same("again: colour", game.paint(p, 0), p == 2 ? 1 : p == 3 ? 2 : 0);
        }
    }
}
