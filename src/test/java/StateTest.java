import java.util.function.Consumer;

/** Promises 1 to 5: what a position is, and the calls that change it. Each test quotes its sentence. */
final class StateTest {
    private static final Checks checks = new Checks();

    public static void main(String[] args) {
        newPositionsArePlayer0s();
        newColoursAre0();
        newMovesLeadToThePositionItself();
        newObjectsAnswer();
        objectsAreApart();
        setGivesPlayerColourAndMoves();
        setAllowsTheEdges();
        setMovesToItselfOrTwiceToTheSame();
        setReadsSixBitsOfMoves();
        setReplacesWhatWasThere();
        setRefusesPositions();
        setRefusesPlayers();
        setRefusesColours();
        setTestsThePositionFirst();
        setTestsThePlayerAheadOfTheColour();
        setGoesOnAfterARefusal();
        paintAnswersTheOldColour();
        paintChangesTheColourAlone();
        paintRefusesPositions();
        paintRefusesColours();
        paintTestsThePositionFirst();
        handAnswersTheNewPlayer();
        handChangesThePlayerAlone();
        handRefusesPositions();
        mirrorGivesEveryPositionToTheOther();
        mirrorMakesColoursOneGreater();
        mirrorMakes5To0();
        mirrorLeavesMoves();
        mirrorManyTimes();
        checks.end();
    }

    private static void checkChanged(String what, Consumer<ParityGame> change, Consumer<Reference> due) {
        Reader.checkMixed(checks, what, change, due);
    }

    /** "nothing changes then", "nothing changes". */
    private static void checkRefused(String what, Consumer<ParityGame> refused) {
        Reader.checkMixedUnchanged(checks, "after the refused " + what, refused);
    }

    /** Promise 1: "Every position belongs to player 0". */
    private static void newPositionsArePlayer0s() {
        ParityGame game = new ParityGame();
        for (int p = 0; p < 8; p++) {
            checks.same("new: hand(" + p + ")", game.hand(p), 1);
        }
    }

    /** Promise 1: "has colour 0". */
    private static void newColoursAre0() {
        ParityGame game = new ParityGame();
        for (int p = 0; p < 8; p++) {
            checks.same("new: paint(" + p + ", 5)", game.paint(p, 5), 0);
        }
    }

    /** Promise 1: "both its moves lead to itself". */
    private static void newMovesLeadToThePositionItself() {
        for (int p = 0; p < 8; p++) {
            checks.same("new: moves of " + p, Reader.movesOf(new ParityGame(), p), Inputs.both(p, p));
        }
    }

    private static void newObjectsAnswer() {
        ParityGame game = new ParityGame();
        checks.same("new: region()", game.region(), 255);
        checks.same("new: plans(0)", game.plans(0), 256);
        checks.same("new: plans(1)", game.plans(1), 256);
        checks.same("new: firstPlan(0)", game.firstPlan(0), 0);
        checks.same("new: firstPlan(1)", game.firstPlan(1), 0);
        checks.same("new: contested()", game.contested(), 0);
        for (int p = 0; p < 8; p++) {
            checks.same("new: winner(" + p + ")", game.winner(p), 0);
            for (int b = 0; b < 8; b++) {
                checks.same("new: canForce(" + p + ", " + b + ")", game.canForce(p, b), p == b);
            }
        }
    }

    private static void objectsAreApart() {
        ParityGame one = new ParityGame();
        ParityGame other = new ParityGame();
        one.mirror();
        one.set(0, 1, 5, Inputs.both(1, 2));
        checks.same("another object: region()", other.region(), 255);
        checks.same("another object: hand(0)", other.hand(0), 1);
        checks.same("another object: paint(0, 1)", other.paint(0, 1), 0);
        checks.same("another object: moves of 0", Reader.movesOf(other, 0), 0);
    }

    /** Promise 2: "Sets a position", "Its moves lead to moves & 7 and (moves >> 3) & 7", "Else answers 0". */
    private static void setGivesPlayerColourAndMoves() {
        for (int moves = 0; moves < 64; moves++) {
            for (int p = 0; p < 8; p++) {
                int player = (moves + p) % 2;
                int colour = (moves + p) % 6;
                ParityGame game = new ParityGame();
                String what = "set(" + p + ", " + player + ", " + colour + ", " + moves + ")";
                checks.same(what, game.set(p, player, colour, moves), 0);
                checks.same(what + ": player", Reader.playerOf(game, p), player);
                checks.same(what + ": colour", Reader.colourOf(game, p), colour);
                checks.same(what + ": moves", Reader.movesOf(game, p), moves);
            }
        }
    }

    /** Promise 2, the least and greatest of what is allowed: position 0 and 7, player 0 and 1, colour 0 and 5. */
    private static void setAllowsTheEdges() {
        for (int edges = 0; edges < 8; edges++) {
            int p = 7 * (edges & 1);
            int player = edges >> 1 & 1;
            int colour = 5 * (edges >> 2);
            String what = "set(" + p + ", " + player + ", " + colour + ", 19)";
            checks.same(what, Games.mixed().set(p, player, colour, 19), 0);
            checkChanged(what, game -> game.set(p, player, colour, 19),
                reference -> reference.set(p, player, colour, 19));
        }
    }

    /** Terms: moves "which may be the same, or the position itself". */
    private static void setMovesToItselfOrTwiceToTheSame() {
        for (int p = 0; p < 8; p++) {
            int at = p;
            int next = (p + 1) % 8;
            int[] given = {Inputs.both(p, p), Inputs.both(p, next), Inputs.both(next, p), Inputs.both(next, next)};
            for (int moves : given) {
                checks.same("set(" + p + ", 1, 3, " + moves + ")", Games.mixed().set(p, 1, 3, moves), 0);
                checkChanged("set(" + p + ", 1, 3, " + moves + ")", game -> game.set(at, 1, 3, moves),
                    reference -> reference.set(at, 1, 3, moves));
            }
        }
    }

    /** Promise 2: "moves & 7 and (moves >> 3) & 7": no bit beyond these six is read, and none is refused. */
    private static void setReadsSixBitsOfMoves() {
        for (int high : new int[] {64, 128, 256, 512, 4096, 1 << 30, -64, Inputs.LEAST, Inputs.GREATEST & -64}) {
            for (int low : new int[] {0, 1, 8, 42, 21, 7, 56, 63}) {
                ParityGame game = new ParityGame();
                checks.same("set(6, 1, 2, " + (high | low) + ")", game.set(6, 1, 2, high | low), 0);
                checks.same("player beside high bits", Reader.playerOf(game, 6), 1);
                checks.same("colour beside high bits", Reader.colourOf(game, 6), 2);
                checks.same("moves of " + (high | low), Reader.movesOf(game, 6), low);
            }
        }
    }

    private static void setReplacesWhatWasThere() {
        for (int p = 0; p < 8; p++) {
            int at = p;
            checkChanged("set twice at " + p, game -> {
                game.set(at, 1, 5, 63);
                game.set(at, 0, 2, 10);
            }, reference -> reference.set(at, 0, 2, 10));
        }
    }

    /** Promise 2: "position not in 0 to 7: BAD_POSITION", and "nothing changes then". */
    private static void setRefusesPositions() {
        for (int position : Inputs.NOT_POSITIONS) {
            for (int player = 0; player < 2; player++) {
                int given = player;
                String what = "set(" + position + ", " + player + ", 5, 29)";
                checks.same(what, Games.mixed().set(position, player, 5, 29), ParityGame.BAD_POSITION);
                checkRefused(what, game -> game.set(position, given, 5, 29));
            }
        }
    }

    /** Promise 2: "player not 0 or 1: BAD_PLAYER", and "nothing changes then". */
    private static void setRefusesPlayers() {
        for (int player : Inputs.NOT_PLAYERS) {
            for (int p = 0; p < 8; p++) {
                checks.same("set(" + p + ", " + player + ", 5, 29)", Games.mixed().set(p, player, 5, 29),
                    ParityGame.BAD_PLAYER);
            }
            checkRefused("set(0 to 7, " + player + ", 5, 29)", game -> {
                for (int p = 0; p < 8; p++) {
                    game.set(p, player, 5, 29);
                }
            });
        }
    }

    /** Promise 2: "colour not in 0 to 5: BAD_COLOUR", and "nothing changes then". */
    private static void setRefusesColours() {
        for (int colour : Inputs.NOT_COLOURS) {
            for (int player = 0; player < 2; player++) {
                int given = player;
                for (int p = 0; p < 8; p++) {
                    checks.same("set(" + p + ", " + player + ", " + colour + ", 29)",
                        Games.mixed().set(p, player, colour, 29), ParityGame.BAD_COLOUR);
                }
                checkRefused("set(0 to 7, " + player + ", " + colour + ", 29)", game -> {
                    for (int p = 0; p < 8; p++) {
                        game.set(p, given, colour, 29);
                    }
                });
            }
        }
    }

    /** Promise 2: "Tests in this order": the position ahead of the player and the colour. */
    private static void setTestsThePositionFirst() {
        for (int position : Inputs.NOT_POSITIONS) {
            for (int player : Inputs.NOT_PLAYERS) {
                checks.same("set(" + position + ", " + player + ", 0, 0)",
                    Games.mixed().set(position, player, 0, 0), ParityGame.BAD_POSITION);
                for (int colour : Inputs.NOT_COLOURS) {
                    checks.same("set(" + position + ", " + player + ", " + colour + ", 0)",
                        Games.mixed().set(position, player, colour, 0), ParityGame.BAD_POSITION);
                }
            }
            for (int colour : Inputs.NOT_COLOURS) {
                checks.same("set(" + position + ", 1, " + colour + ", 0)",
                    Games.mixed().set(position, 1, colour, 0), ParityGame.BAD_POSITION);
            }
        }
        checkRefused("set(-1, -1, -1, -1)", game -> game.set(-1, -1, -1, -1));
    }

    /** Promise 2: "Tests in this order": the player ahead of the colour. */
    private static void setTestsThePlayerAheadOfTheColour() {
        for (int player : Inputs.NOT_PLAYERS) {
            for (int colour : Inputs.NOT_COLOURS) {
                checks.same("set(2, " + player + ", " + colour + ", 0)",
                    Games.mixed().set(2, player, colour, 0), ParityGame.BAD_PLAYER);
            }
        }
        checkRefused("set(2, 2, 6, 0)", game -> game.set(2, 2, 6, 0));
    }

    private static void setGoesOnAfterARefusal() {
        ParityGame game = Games.mixed();
        checks.same("set(7, 2, 0, 0)", game.set(7, 2, 0, 0), ParityGame.BAD_PLAYER);
        checks.same("set(7, 1, 5, 62) after a refusal", game.set(7, 1, 5, 62), 0);
        checks.same("hand(7) then", game.hand(7), 0);
        checks.same("paint(7, 0) then", game.paint(7, 0), 5);
        checks.same("moves of 7 then", Reader.movesOf(game, 7), 62);
    }

    /** Promise 3: "Else answers the old one", from each colour to each, also to the same one. */
    private static void paintAnswersTheOldColour() {
        for (int p = 0; p < 8; p++) {
            for (int old = 0; old < 6; old++) {
                for (int colour = 0; colour < 6; colour++) {
                    ParityGame game = new ParityGame();
                    game.paint(p, old);
                    String what = "paint(" + p + ", " + colour + ")";
                    checks.same(what + " over " + old, game.paint(p, colour), old);
                    checks.same(what + " again", game.paint(p, colour), colour);
                    checks.same(what + ": winner", game.winner(p), colour % 2);
                }
            }
        }
    }

    /** Promise 3: "Changes a position's colour", that one position's and nothing else. */
    private static void paintChangesTheColourAlone() {
        for (int p = 0; p < 8; p++) {
            for (int colour : new int[] {0, 5}) {
                int at = p;
                checkChanged("paint(" + p + ", " + colour + ")", game -> game.paint(at, colour),
                    reference -> reference.paint(at, colour));
            }
        }
    }

    /** Promise 3: BAD_POSITION, "nothing changes then". */
    private static void paintRefusesPositions() {
        for (int position : Inputs.NOT_POSITIONS) {
            for (int colour : new int[] {0, 5}) {
                String what = "paint(" + position + ", " + colour + ")";
                checks.same(what, Games.mixed().paint(position, colour), ParityGame.BAD_POSITION);
                checkRefused(what, game -> game.paint(position, colour));
            }
        }
    }

    /** Promise 3: BAD_COLOUR, "nothing changes then". */
    private static void paintRefusesColours() {
        for (int colour : Inputs.NOT_COLOURS) {
            for (int p = 0; p < 8; p++) {
                checks.same("paint(" + p + ", " + colour + ")", Games.mixed().paint(p, colour), ParityGame.BAD_COLOUR);
            }
            checkRefused("paint(0 to 7, " + colour + ")", game -> {
                for (int p = 0; p < 8; p++) {
                    game.paint(p, colour);
                }
            });
        }
    }

    /** Promise 3: "Tests in this order: BAD_POSITION; BAD_COLOUR". */
    private static void paintTestsThePositionFirst() {
        for (int position : Inputs.NOT_POSITIONS) {
            for (int colour : Inputs.NOT_COLOURS) {
                checks.same("paint(" + position + ", " + colour + ")", Games.mixed().paint(position, colour),
                    ParityGame.BAD_POSITION);
            }
        }
        checkRefused("paint(-1, -1)", game -> game.paint(-1, -1));
    }

    /** Promise 4: "A position's player becomes the other one", "Else answers the new one". */
    private static void handAnswersTheNewPlayer() {
        for (int p = 0; p < 8; p++) {
            ParityGame game = new ParityGame();
            game.set(p, 0, 3, Inputs.both((p + 1) % 8, (p + 2) % 8));
            checks.same("hand(" + p + ")", game.hand(p), 1);
            checks.same("player 1 may go elsewhere", game.canForce(p, (p + 1) % 8), false);
            checks.same("hand(" + p + ") again", game.hand(p), 0);
            checks.same("player 0 chooses", game.canForce(p, (p + 1) % 8), true);
        }
    }

    /** Promise 4: that one position's player, and nothing else. */
    private static void handChangesThePlayerAlone() {
        for (int p = 0; p < 8; p++) {
            int at = p;
            checkChanged("hand(" + p + ")", game -> game.hand(at), reference -> reference.hand(at));
        }
    }

    /** Promise 4: "BAD_POSITION, nothing changes". */
    private static void handRefusesPositions() {
        for (int position : Inputs.NOT_POSITIONS) {
            checks.same("hand(" + position + ")", Games.mixed().hand(position), ParityGame.BAD_POSITION);
            checkRefused("hand(" + position + ")", game -> game.hand(position));
        }
    }

    /** Promise 5: "Every position goes to the other player". */
    private static void mirrorGivesEveryPositionToTheOther() {
        for (int of1 = 0; of1 < 256; of1++) {
            ParityGame game = new ParityGame();
            for (int p = 0; p < 8; p++) {
                game.set(p, of1 >> p & 1, 2, 0);
            }
            game.mirror();
            for (int p = 0; p < 8; p++) {
                checks.same("mirror of " + of1 + ": hand(" + p + ")", game.hand(p), of1 >> p & 1);
            }
        }
    }

    /** Promise 5: "its colour becomes one greater", from each colour below 5. */
    private static void mirrorMakesColoursOneGreater() {
        for (int colour = 0; colour < 5; colour++) {
            for (int p = 0; p < 8; p++) {
                ParityGame game = new ParityGame();
                game.paint(p, colour);
                game.mirror();
                checks.same("mirror of colour " + colour + " at " + p, game.paint(p, 0), colour + 1);
            }
        }
    }

    /** Promise 5: "but 5 becomes 0", for one position of colour 5 and for all; 4 becomes 5, not 0. */
    private static void mirrorMakes5To0() {
        for (int p = 0; p < 8; p++) {
            ParityGame game = new ParityGame();
            game.paint(p, 5);
            game.mirror();
            checks.same("mirror of 5: winner(" + p + ")", game.winner(p), 0);
            checks.same("mirror of 5 at " + p, game.paint(p, 5), 0);
            game.mirror();
            checks.same("mirror of 5 again at " + p, game.paint(p, 5), 0);
        }
        ParityGame ring = new ParityGame();
        ring.set(0, 0, 5, Inputs.both(1, 1));
        ring.set(1, 1, 4, Inputs.both(0, 0));
        checks.same("5 and 4: winner(0)", ring.winner(0), 1);
        ring.mirror();
        checks.same("0 and 5 after mirror: winner(0)", ring.winner(0), 1);
        ring.mirror();
        checks.same("1 and 0 after mirror: winner(0)", ring.winner(0), 1);
        ring.mirror();
        checks.same("2 and 1 after mirror: winner(0)", ring.winner(0), 0);
    }

    /** Promise 5 names the players and the colours alone: moves stay. */
    private static void mirrorLeavesMoves() {
        checkChanged("mirror", ParityGame::mirror, Reference::mirror);
        for (int moves = 0; moves < 64; moves++) {
            ParityGame game = new ParityGame();
            game.set(moves % 8, 1, 5, moves);
            game.mirror();
            checks.same("moves after mirror", Reader.movesOf(game, moves % 8), moves);
        }
    }

    /** Two mirrors give the players back, six the colours too. */
    private static void mirrorManyTimes() {
        for (int times = 2; times <= 12; times++) {
            int count = times;
            checkChanged("mirror " + times + " times", game -> {
                for (int i = 0; i < count; i++) {
                    game.mirror();
                }
            }, reference -> {
                for (int p = 0; p < 8; p++) {
                    reference.player[p] = (reference.player[p] + count) % 2;
                    reference.colour[p] = (reference.colour[p] + count) % 6;
                }
            });
        }
    }
}
