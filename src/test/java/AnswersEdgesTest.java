/** Promises 6 to 12 at the edges of what they say. Each test quotes its sentence. */
final class AnswersEdgesTest {
    private static final Checks checks = new Checks();
    private static final int[] SOME_CHOICES = {0, 1, 77, 128, 255, 256, -1, Inputs.LEAST, Inputs.GREATEST};

    public static void main(String[] args) {
        winnerAtTheEdges();
        winnerRefuses();
        regionOfOnePosition();
        player0WinsFromNone();
        player1WinsFromNone();
        winningWithoutAPosition();
        goodRefusesPlayers();
        goodIsForAllThatIsWon();
        goodTakesTheFirstOrTheSecond();
        goodReadsEightBits();
        goodReadsOwnPositionsAlone();
        goodWithMovesToTheSame();
        goodWithMovesToItself();
        plansRefusesPlayers();
        plansFromOneToAll();
        firstPlanRefusesPlayers();
        firstPlanIsTheSmallest();
        forcingWhereAIsB();
        forcingRefuses();
        forcingFromItself();
        forcingWithMovesToTheSame();
        forcingWhateverPlayer1Does();
        forcingDoesNotLookBeyondB();
        contestedByNoneOrAll();
        contestedNeedsTwoMoves();
        contestedOneAtATime();
        contestedBothWays();
        checks.end();
    }

    /** A game without moves to elsewhere, in which player 0 wins from the positions of the mask. */
    private static ParityGame apart(int region) {
        ParityGame game = new ParityGame();
        for (int p = 0; p < 8; p++) {
            game.paint(p, Inputs.has(region, p) ? 4 : 5);
        }
        return game;
    }

    /** Each position goes to 6, where player 0 wins, or to 7, where player 1 does; 6 and 7 stay. */
    private static ParityGame goodOrBad(int positionsOf1) {
        ParityGame game = new ParityGame();
        for (int p = 0; p < 6; p++) {
            game.set(p, positionsOf1 >> p & 1, 3, Inputs.both(6, 7));
        }
        game.paint(7, 1);
        return game;
    }

    /** Promise 6: "The player who wins from the position", at the first and the last position. */
    private static void winnerAtTheEdges() {
        checks.same("winner(0), all but 0", apart(254).winner(0), 1);
        checks.same("winner(7), all but 0", apart(254).winner(7), 0);
        checks.same("winner(0), all but 7", apart(127).winner(0), 0);
        checks.same("winner(7), all but 7", apart(127).winner(7), 1);
    }

    /** Promise 6, for all and for none won: a position not in 0 to 7 has no winner. */
    private static void winnerRefuses() {
        for (int position : Inputs.NOT_POSITIONS) {
            checks.same("winner(" + position + "), all won", apart(255).winner(position), ParityGame.BAD_POSITION);
            checks.same("winner(" + position + "), none won", apart(0).winner(position), ParityGame.BAD_POSITION);
        }
    }

    /** Promise 7: "as a mask": bit p for position p, none beyond. */
    private static void regionOfOnePosition() {
        for (int p = 0; p < 8; p++) {
            checks.same("only " + p, apart(1 << p).region(), 1 << p);
            checks.same("all but " + p, apart(255 - (1 << p)).region(), 255 - (1 << p));
        }
        checks.same("none", apart(0).region(), 0);
        checks.same("all", apart(255).region(), 255);
    }

    /** Promises 6 to 10: who wins from no position has only good plans, as there is nothing to be good for. */
    private static void player0WinsFromNone() {
        ParityGame game = new ParityGame();
        for (int p = 0; p < 8; p++) {
            game.set(p, 0, 1 + p % 2 * 2, Inputs.both((p + 1) % 8, p));
        }
        checkWinsFromNone("player 0 wins from none", game, 0);
        // Player 1 has no position to choose at, and all of its plans win everything.
        checks.same("player 1 wins from all: plans(1)", game.plans(1), 256);
    }

    /** The same for player 1, where player 0 has to choose well to win from all. */
    private static void player1WinsFromNone() {
        ParityGame game = new ParityGame();
        for (int p = 0; p < 8; p++) {
            game.set(p, 0, p == 7 ? 2 : 1, Inputs.both(p, (p + 1) % 8));
        }
        checkWinsFromNone("player 1 wins from none", game, 1);
        checks.same("player 0 wins from all: plans(0)", game.plans(0), 2);
        checks.same("player 0 wins from all: firstPlan(0)", game.firstPlan(0), 127);
        checks.same("player 0 wins from all: good(0, 127)", game.good(0, 127), true);
        checks.same("player 0 wins from all: good(0, 255)", game.good(0, 255), true);
        checks.same("player 0 wins from all: good(0, 126)", game.good(0, 126), false);
    }

    private static void checkWinsFromNone(String what, ParityGame game, int player) {
        checks.same(what + ": region()", game.region(), player == 0 ? 0 : 255);
        checks.same(what + ": plans", game.plans(player), 256);
        checks.same(what + ": firstPlan", game.firstPlan(player), 0);
        for (int p = 0; p < 8; p++) {
            checks.same(what + ": winner(" + p + ")", game.winner(p), 1 - player);
        }
        for (int choices : SOME_CHOICES) {
            checks.same(what + ": good(" + player + ", " + choices + ")", game.good(player, choices), true);
        }
    }

    /** Promises 6 to 10, for a player to whom no position belongs, but who wins from all. */
    private static void winningWithoutAPosition() {
        for (int player = 0; player < 2; player++) {
            ParityGame game = new ParityGame();
            for (int p = 0; p < 8; p++) {
                game.set(p, 1 - player, 2 + player, Inputs.both(7 - p, 0));
            }
            checks.same("no position: region()", game.region(), player == 0 ? 255 : 0);
            checks.same("no position: plans", game.plans(player), 256);
            checks.same("no position: firstPlan", game.firstPlan(player), 0);
            for (int choices : SOME_CHOICES) {
                checks.same("no position: good", game.good(player, choices), true);
            }
        }
    }

    /** Promise 8: "player not 0 or 1: false", where each plan is good for 0 and for 1. */
    private static void goodRefusesPlayers() {
        for (int player : Inputs.NOT_PLAYERS) {
            for (int choices : SOME_CHOICES) {
                String what = "good(" + player + ", " + choices + ")";
                checks.same(what + ", all won", apart(255).good(player, choices), false);
                checks.same(what + ", none won", apart(0).good(player, choices), false);
            }
        }
        checks.same("good(0, 0) is not refused", apart(255).good(0, 0), true);
        checks.same("good(1, 0) is not refused", apart(255).good(1, 0), true);
    }

    /** Promise 8: "good for all positions from which the player wins", not for some of them only. */
    private static void goodIsForAllThatIsWon() {
        for (int player = 0; player < 2; player++) {
            ParityGame game = goodOrBad(player == 0 ? 0 : 63);
            int due = player == 0 ? 0 : 63;
            checks.same("all choices right", game.good(player, due), true);
            for (int p = 0; p < 6; p++) {
                checks.same("a wrong choice at " + p, game.good(player, due ^ 1 << p), false);
            }
            checks.same("all choices wrong", game.good(player, 63 - due), false);
        }
    }

    /** Promise 8: "takes a position's second move if the position's bit is set in 'choices', else its first". */
    private static void goodTakesTheFirstOrTheSecond() {
        for (int p = 0; p < 8; p++) {
            int won = (p + 1) % 8;
            int lost = (p + 2) % 8;
            ParityGame game = new ParityGame();
            game.paint(lost, 1);
            game.set(p, 0, 0, Inputs.both(won, lost));
            checks.same("the first wins at " + p + ": bit not set", game.good(0, 255 - (1 << p)), true);
            checks.same("the first wins at " + p + ": bit set", game.good(0, 1 << p), false);
            game.set(p, 0, 0, Inputs.both(lost, won));
            checks.same("the second wins at " + p + ": bit not set", game.good(0, 255 - (1 << p)), false);
            checks.same("the second wins at " + p + ": bit set", game.good(0, 1 << p), true);
        }
    }

    /** Promise 8: a plan has a bit for each position, so the bits beyond bit 7 are no position's. */
    private static void goodReadsEightBits() {
        ParityGame game = goodOrBad(0);
        for (int high : Inputs.HIGH_BITS) {
            checks.same("good(0, " + high + ")", game.good(0, high), true);
            checks.same("good(0, " + (high | 192) + ")", game.good(0, high | 192), true);
            checks.same("good(0, " + (high | 1) + ")", game.good(0, high | 1), false);
            checks.same("good(0, " + (high | 32) + ")", game.good(0, high | 32), false);
        }
        checks.same("good(0, -1)", game.good(0, -1), false);
        checks.same("good(0, greatest)", game.good(0, Inputs.GREATEST), false);
        checks.same("good(0, least)", game.good(0, Inputs.LEAST), true);
    }

    /** Terms: "A PLAN for a player gives each of its positions one move": the other one's stay free. */
    private static void goodReadsOwnPositionsAlone() {
        ParityGame game = goodOrBad(2 | 8 | 32);
        for (int choices = 0; choices < 256; choices++) {
            checks.same("good(0, " + choices + ")", game.good(0, choices), (choices & (1 | 4 | 16)) == 0);
            checks.same("good(1, " + choices + ")", game.good(1, choices), (choices & (2 | 8 | 32)) == (2 | 8 | 32));
        }
        checks.same("own positions: plans(0)", game.plans(0), 32);
        checks.same("own positions: plans(1)", game.plans(1), 32);
        checks.same("own positions: firstPlan(0)", game.firstPlan(0), 0);
        checks.same("own positions: firstPlan(1)", game.firstPlan(1), 2 | 8 | 32);
    }

    /** Terms: moves "which may be the same": then either choice is the same plan, and counts. */
    private static void goodWithMovesToTheSame() {
        ParityGame game = goodOrBad(0);
        checks.same("to 6 or 7: plans(0)", game.plans(0), 4);
        game.set(0, 0, 3, Inputs.both(6, 6));
        checks.same("twice to 6: good(0, 0)", game.good(0, 0), true);
        checks.same("twice to 6: good(0, 1)", game.good(0, 1), true);
        checks.same("twice to 6: plans(0)", game.plans(0), 8);
        game.set(0, 0, 3, Inputs.both(7, 7));
        checks.same("twice to 7: winner(0)", game.winner(0), 1);
        checks.same("twice to 7: good(0, 0)", game.good(0, 0), true);
        checks.same("twice to 7: good(0, 1)", game.good(0, 1), true);
        checks.same("twice to 7: good(0, 2)", game.good(0, 2), false);
    }

    /** Terms: moves to "the position itself": a play may stay there for ever. */
    private static void goodWithMovesToItself() {
        for (int colour = 0; colour < 6; colour++) {
            for (int player = 0; player < 2; player++) {
                ParityGame game = new ParityGame();
                game.set(3, player, colour, Inputs.both(3, 4));
                game.set(4, player, 5 - colour, Inputs.both(4, 4));
                boolean staysWell = colour % 2 == player;
                checks.same("to stay at 3: winner(3)", game.winner(3), player);
                checks.same("to stay at 3: good", game.good(player, 0), staysWell);
                checks.same("to leave 3: good", game.good(player, 8), !staysWell);
                checks.same("to stay or leave: plans", game.plans(player), 128);
                checks.same("to stay or leave: firstPlan", game.firstPlan(player), staysWell ? 0 : 8);
            }
        }
    }

    /** Promise 9: "player not 0 or 1: BAD_PLAYER". */
    private static void plansRefusesPlayers() {
        for (int player : Inputs.NOT_PLAYERS) {
            checks.same("plans(" + player + "), all won", apart(255).plans(player), ParityGame.BAD_PLAYER);
            checks.same("plans(" + player + "), none won", apart(0).plans(player), ParityGame.BAD_PLAYER);
        }
    }

    /** Promise 9: "How many of the 256 masks", from one only, be it the first or the last, to all of them. */
    private static void plansFromOneToAll() {
        for (int player = 0; player < 2; player++) {
            for (int count = 0; count <= 8; count++) {
                checkStairs("by second moves at " + count, stairs(player, count, true), player, 256 >> count);
                checkStairs("by first moves at " + count, stairs(player, count, false), player, 256 >> count);
            }
        }
    }

    private static void checkStairs(String what, ParityGame game, int player, int plans) {
        checks.same(what + ": region()", game.region(), player == 0 ? 255 : 0);
        checks.same(what + ": plans", game.plans(player), plans);
        checks.same(what + ": plans of the other", game.plans(1 - player), 256);
    }

    /**
     * Each of the first 'count' positions loses for the player if it stays there, and wins if it goes
     * on; the others go on only. From the last one it goes on by staying.
     */
    private static ParityGame stairs(int player, int count, boolean goesOnBySecond) {
        ParityGame game = new ParityGame();
        for (int p = 0; p < 8; p++) {
            int on = p == 7 ? 7 : p + 1;
            int stay = p == 7 ? 0 : p;
            int other = p < count ? stay : on;
            int colour = p == 7 ? player : player + 1;
            game.set(p, player, colour, goesOnBySecond ? Inputs.both(other, on) : Inputs.both(on, other));
        }
        return game;
    }

    /** Promise 10: "player not 0 or 1: BAD_PLAYER". */
    private static void firstPlanRefusesPlayers() {
        for (int player : Inputs.NOT_PLAYERS) {
            checks.same("firstPlan(" + player + "), all won", apart(255).firstPlan(player), ParityGame.BAD_PLAYER);
            checks.same("firstPlan(" + player + "), none won", apart(0).firstPlan(player), ParityGame.BAD_PLAYER);
        }
    }

    /** Promise 10: "The smallest mask 'choices' for which good holds", from 0 to 255. */
    private static void firstPlanIsTheSmallest() {
        for (int player = 0; player < 2; player++) {
            for (int count = 0; count <= 8; count++) {
                int due = (1 << count) - 1;
                ParityGame game = stairs(player, count, true);
                checks.same("second moves at " + count + ": firstPlan", game.firstPlan(player), due);
                checks.same("second moves at " + count + ": good", game.good(player, due), true);
                ParityGame byFirst = stairs(player, count, false);
                checks.same("first moves at " + count + ": firstPlan", byFirst.firstPlan(player), 0);
            }
            for (int p = 0; p < 8; p++) {
                ParityGame game = new ParityGame();
                int next = (p + 1) % 8;
                game.set(p, player, player + 1, Inputs.both(p, next));
                game.set(next, player, player, Inputs.both(next, next));
                checks.same("only the second at " + p + ": firstPlan", game.firstPlan(player), 1 << p);
            }
        }
    }

    /** Promise 11: "also if a is b": the play is there from its beginning, whosever it is and wherever it goes on. */
    private static void forcingWhereAIsB() {
        for (int p = 0; p < 8; p++) {
            int next = (p + 1) % 8;
            int[] given = {Inputs.both(p, p), Inputs.both(p, next), Inputs.both(next, p), Inputs.both(next, next)};
            for (int moves : given) {
                for (int player = 0; player < 2; player++) {
                    ParityGame game = new ParityGame();
                    game.set(p, player, 1, moves);
                    checks.same("canForce(" + p + ", " + p + "), moves " + moves, game.canForce(p, p), true);
                }
            }
        }
    }

    /** Promise 11: "false if one is not in 0 to 7", also both, also the same one twice. */
    private static void forcingRefuses() {
        ParityGame game = new ParityGame();
        for (int p = 0; p < 8; p++) {
            game.set(p, 0, 0, Inputs.both((p + 1) % 8, p));
        }
        for (int wrong : Inputs.NOT_POSITIONS) {
            for (int p = 0; p < 8; p++) {
                checks.same("canForce(" + wrong + ", " + p + ")", game.canForce(wrong, p), false);
                checks.same("canForce(" + p + ", " + wrong + ")", game.canForce(p, wrong), false);
            }
        }
        ParityGame other = new ParityGame();
        for (int wrong : Inputs.NOT_POSITIONS) {
            for (int alsoWrong : Inputs.NOT_POSITIONS) {
                checks.same("canForce(" + wrong + ", " + alsoWrong + ")", other.canForce(wrong, alsoWrong), false);
            }
        }
    }

    /** A move to the position itself: player 0 need not take it, player 1 may take it for ever. */
    private static void forcingFromItself() {
        for (int p = 0; p < 8; p++) {
            int next = (p + 1) % 8;
            for (int moves : new int[] {Inputs.both(p, next), Inputs.both(next, p)}) {
                ParityGame game = new ParityGame();
                game.set(p, 0, 0, moves);
                checks.same("player 0 leaves " + p, game.canForce(p, next), true);
                game.hand(p);
                checks.same("player 1 may stay at " + p, game.canForce(p, next), false);
                game.set(p, 0, 0, Inputs.both(p, p));
                checks.same("player 0 can't leave " + p, game.canForce(p, next), false);
            }
        }
    }

    /** Both moves to the same position: player 1 has no choice either. */
    private static void forcingWithMovesToTheSame() {
        for (int p = 0; p < 8; p++) {
            for (int b = 0; b < 8; b++) {
                for (int player = 0; player < 2; player++) {
                    ParityGame game = new ParityGame();
                    game.set(p, player, 0, Inputs.both(b, b));
                    for (int to = 0; to < 8; to++) {
                        checks.same("twice to " + b + ": canForce(" + p + ", " + to + ")", game.canForce(p, to),
                            to == b || to == p);
                    }
                }
            }
        }
    }

    /** Promise 11: "whatever player 1 does", which may also go round for ever. */
    private static void forcingWhateverPlayer1Does() {
        ParityGame game = new ParityGame();
        game.set(0, 1, 0, Inputs.both(1, 2));
        game.set(1, 0, 0, Inputs.both(2, 3));
        game.set(2, 0, 0, Inputs.both(2, 3));
        checks.same("both ways lead on", game.canForce(0, 3), true);
        game.set(1, 1, 0, Inputs.both(0, 3));
        checks.same("player 1 goes round by 0 and 1", game.canForce(0, 3), false);
        checks.same("player 1 goes round by 1 and 0", game.canForce(1, 3), false);
        game.hand(1);
        checks.same("player 0 at 1 goes on", game.canForce(0, 3), true);
        game.set(2, 1, 0, Inputs.both(4, 3));
        checks.same("player 1 goes to 4", game.canForce(0, 3), false);
        checks.same("from 1 still", game.canForce(1, 3), true);
    }

    /** Promise 11: "come to position b": what is at b, and where the play goes on, does not count. */
    private static void forcingDoesNotLookBeyondB() {
        for (int player = 0; player < 2; player++) {
            for (int colour = 0; colour < 6; colour++) {
                ParityGame game = new ParityGame();
                game.set(0, 0, colour, Inputs.both(0, 7));
                game.set(7, player, colour, Inputs.both(1, 2));
                checks.same("to 7 and on", game.canForce(0, 7), true);
                checks.same("not back", game.canForce(7, 0), false);
                checks.same("by 7 to 2", game.canForce(0, 2), player == 0);
            }
        }
    }

    /** Promise 12: "How many positions", from none to all eight. */
    private static void contestedByNoneOrAll() {
        checks.same("each stays: contested()", apart(85).contested(), 0);
        checks.same("two to choose from: contested()", goodOrBad(21).contested(), 6);
        ParityGame game = goodOrBad(42);
        game.set(6, 0, 0, Inputs.both(6, 7));
        checks.same("also 6: contested()", game.contested(), 7);
        game.set(7, 1, 1, Inputs.both(7, 6));
        checks.same("also 7: contested()", game.contested(), 8);
        game.mirror();
        checks.same("all mirrored: contested()", game.contested(), 8);
    }

    /** A position with both moves to the same, or to positions with the same winner, is nobody's choice. */
    private static void contestedNeedsTwoMoves() {
        ParityGame game = goodOrBad(0);
        for (int p = 0; p < 6; p++) {
            checks.same("choices from " + p + ": contested()", game.contested(), 6 - p);
            int to = 6 + p % 2;
            game.set(p, p % 3 == 0 ? 1 : 0, 3, Inputs.both(to, to));
        }
        checks.same("no choices: contested()", game.contested(), 0);
    }

    /** Promise 12: "if that one position belonged to the other player": each by itself, not two at once. */
    private static void contestedOneAtATime() {
        ParityGame game = new ParityGame();
        game.set(0, 0, 1, Inputs.both(1, 7));
        game.set(1, 0, 1, Inputs.both(0, 7));
        checks.same("0 or 1 to player 1: contested()", game.contested(), 0);
        game.hand(0);
        checks.same("0 is player 1's: contested()", game.contested(), 1);
        game.hand(1);
        checks.same("0 and 1 are player 1's: region()", game.region(), 252);
        checks.same("0 and 1 are player 1's: contested()", game.contested(), 2);
    }

    /** Promise 12: "the other player": from player 0 to player 1, and from player 1 to player 0. */
    private static void contestedBothWays() {
        for (int p = 0; p < 6; p++) {
            for (int player = 0; player < 2; player++) {
                ParityGame game = new ParityGame();
                game.paint(7, 1);
                game.set(p, player, 3, Inputs.both(6, 7));
                checks.same("player " + player + " at " + p + ": contested()", game.contested(), 1);
                checks.same("its player after contested()", game.hand(p), 1 - player);
            }
        }
    }
}
