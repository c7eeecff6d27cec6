import java.util.function.Consumer;
import java.util.function.ToIntFunction;

/** What the document says ahead of the promises: "What it is", "Terms", and the line ahead of winner. */
final class TermsTest {
    private static final Checks checks = new Checks();

    public static void main(String[] args) {
        eachColourAlone();
        eachPairOfColours();
        coloursOnTheWayDoNotCount();
        exactlyOnePlayerWins();
        theOtherDoesWhatItLikes();
        aPlanMovesAlwaysTheSameWay();
        positionsOutsideAreRefused();
        answersChangeNothing();
        refusedAnswersChangeNothing();
        answersFollowEachChange();
        all512CallsOfOneKindAnswer();
        all511ChangesAreMade();
        all512CallsOfMixedKindsAnswer();
        laterCallsEnd();
        checks.end();
    }

    /** "player 0 if the greatest colour that comes up again and again without end is even, else player 1". */
    private static void eachColourAlone() {
        for (int p = 0; p < 8; p++) {
            for (int colour = 0; colour < 6; colour++) {
                for (int player = 0; player < 2; player++) {
                    ParityGame game = new ParityGame();
                    game.set(p, player, colour, Inputs.both(p, p));
                    checks.same("staying at colour " + colour, game.winner(p), colour % 2);
                }
            }
        }
    }

    /** The same sentence: "greatest", whichever of the two comes first. */
    private static void eachPairOfColours() {
        for (int one = 0; one < 6; one++) {
            for (int other = 0; other < 6; other++) {
                ParityGame game = new ParityGame();
                game.set(0, 0, one, Inputs.both(7, 7));
                game.set(7, 1, other, Inputs.both(0, 0));
                int due = Math.max(one, other) % 2;
                checks.same("colours " + one + " and " + other + ": winner(0)", game.winner(0), due);
                checks.same("colours " + one + " and " + other + ": winner(7)", game.winner(7), due);
            }
        }
    }

    /** The same sentence: "again and again without end", so a colour that comes up once does not count. */
    private static void coloursOnTheWayDoNotCount() {
        for (int once = 0; once < 6; once++) {
            for (int last = 0; last < 6; last++) {
                ParityGame game = new ParityGame();
                for (int p = 0; p < 7; p++) {
                    game.set(p, p % 2, once, Inputs.both(p + 1, p + 1));
                }
                game.set(7, once % 2, last, Inputs.both(7, 7));
                checks.same("by " + once + " to " + last, game.region(), last % 2 == 0 ? 255 : 0);
            }
        }
    }

    /** "from each position exactly one player wins". */
    private static void exactlyOnePlayerWins() {
        for (int of1 = 0; of1 < 256; of1++) {
            ParityGame game = Games.mixed();
            Reference reference = Games.mixedReference();
            for (int p = 0; p < 8; p++) {
                if (Inputs.has(of1, p)) {
                    game.hand(p);
                    reference.hand(p);
                }
            }
            int region = game.region();
            checks.same("handed " + of1 + ": player 0 wins", region, reference.wonBy(0));
            checks.same("handed " + of1 + ": player 1 wins the rest", 255 - region, reference.wonBy(1));
            for (int p = 0; p < 8; p++) {
                checks.same("handed " + of1 + ": winner(" + p + ")", game.winner(p), Inputs.has(region, p) ? 0 : 1);
            }
        }
    }

    /** "whatever the other one does": one way out at any of the other one's positions is enough to lose. */
    private static void theOtherDoesWhatItLikes() {
        for (int way = 0; way < 6; way++) {
            ParityGame game = new ParityGame();
            for (int p = 0; p < 6; p++) {
                int next = p == 5 ? 0 : p + 1;
                game.set(p, 1, 4, Inputs.both(next, p == way ? 7 : next));
            }
            game.set(7, 0, 1, Inputs.both(7, 7));
            checks.same("a way out at " + way, game.region(), 64);
            game.hand(way);
            checks.same("player 0's way out at " + way, game.region(), 127);
        }
    }

    /** "it always moves by the plan": 0 goes to one of two round trips, and a plan never takes turns. */
    private static void aPlanMovesAlwaysTheSameWay() {
        ParityGame game = new ParityGame();
        game.set(0, 0, 0, Inputs.both(1, 2));
        game.set(1, 0, 4, Inputs.both(0, 0));
        game.set(2, 0, 1, Inputs.both(0, 0));
        checks.same("the round trip by 1", game.good(0, 0), true);
        checks.same("the round trip by 2", game.good(0, 1), false);
        checks.same("half of the plans", game.plans(0), 128);
    }

    /** "A position not in 0 to 7 is BAD_POSITION (false for booleans)." */
    private static void positionsOutsideAreRefused() {
        for (int position : Inputs.NOT_POSITIONS) {
            checks.same("winner(" + position + ")", Games.mixed().winner(position), ParityGame.BAD_POSITION);
            checks.same("canForce(" + position + ", 1)", Games.mixed().canForce(position, 1), false);
            checks.same("canForce(1, " + position + ")", Games.mixed().canForce(1, position), false);
        }
        for (int p = 0; p < 8; p++) {
            checks.same("winner(" + p + ") is not refused", Games.mixed().winner(p) >= 0, true);
            checks.same("canForce(" + p + ", " + p + ") is not refused", Games.mixed().canForce(p, p), true);
        }
    }

    private static void checkUnchanged(String what, Consumer<ParityGame> call) {
        Reader.checkMixedUnchanged(checks, what, call);
    }

    /** "The calls below change nothing." */
    private static void answersChangeNothing() {
        checkUnchanged("after winner", game -> game.winner(3));
        checkUnchanged("after region", ParityGame::region);
        checkUnchanged("after good", game -> game.good(0, 17));
        checkUnchanged("after good that fails", game -> game.good(1, 255));
        checkUnchanged("after plans(0)", game -> game.plans(0));
        checkUnchanged("after plans(1)", game -> game.plans(1));
        checkUnchanged("after firstPlan(0)", game -> game.firstPlan(0));
        checkUnchanged("after firstPlan(1)", game -> game.firstPlan(1));
        checkUnchanged("after canForce", game -> game.canForce(7, 6));
        checkUnchanged("after canForce that fails", game -> game.canForce(0, 7));
        checkUnchanged("after contested", ParityGame::contested);
    }

    /** The same sentence, for calls with an argument that is not allowed. */
    private static void refusedAnswersChangeNothing() {
        for (int position : Inputs.NOT_POSITIONS) {
            checkUnchanged("after winner(" + position + ")", game -> game.winner(position));
            checkUnchanged("after canForce(" + position + ", 0)", game -> game.canForce(position, 0));
            checkUnchanged("after canForce(0, " + position + ")", game -> game.canForce(0, position));
        }
        for (int player : Inputs.NOT_PLAYERS) {
            checkUnchanged("after good(" + player + ", -1)", game -> game.good(player, -1));
            checkUnchanged("after plans(" + player + ")", game -> game.plans(player));
            checkUnchanged("after firstPlan(" + player + ")", game -> game.firstPlan(player));
        }
    }

    /** What was asked ahead of a change does not count: each answer is for the game as it stands. */
    private static void answersFollowEachChange() {
        for (int p = 0; p < 8; p++) {
            int at = p;
            checkFollows("hand(" + p + ")", game -> game.hand(at), due -> due.hand(at));
            for (int colour = 0; colour < 6; colour++) {
                int given = colour;
                int moves = Inputs.both((at + colour) % 8, at);
                checkFollows("paint(" + p + ", " + colour + ")", game -> game.paint(at, given),
                    due -> due.paint(at, given));
                checkFollows("set(" + p + ", 0, " + colour + ", " + moves + ")",
                    game -> game.set(at, 0, given, moves), due -> due.set(at, 0, given, moves));
            }
        }
        checkFollows("mirror()", ParityGame::mirror, Reference::mirror);
    }

    /** 281 calls in all. */
    private static void checkFollows(String what, Consumer<ParityGame> change, Consumer<Reference> changeDue) {
        ParityGame game = Games.mixed();
        Reference due = Games.mixedReference();
        Reader.checkAnswers(checks, "ahead of " + what, game, due);
        change.accept(game);
        changeDue.accept(due);
        Reader.checkAnswers(checks, "asked before and after " + what, game, due);
    }

    private record Call(String name, ToIntFunction<ParityGame> game, ToIntFunction<Reference> due) {
    }

    private static int number(boolean answer) {
        return answer ? 1 : 0;
    }

    private static final Call[] CALLS = {
        new Call("set", game -> game.set(2, 1, 3, 36), due -> due.set(2, 1, 3, 36)),
        new Call("refused set", game -> game.set(8, 1, 3, 36), due -> -1),
        new Call("paint", game -> game.paint(5, 4), due -> due.paint(5, 4)),
        new Call("hand", game -> game.hand(6), due -> due.hand(6)),
        new Call("mirror", game -> {
            game.mirror();
            return 0;
        }, due -> {
            due.mirror();
            return 0;
        }),
        new Call("winner", game -> game.winner(5), due -> due.winner(5)),
        new Call("region", ParityGame::region, Reference::region),
        new Call("good", game -> number(game.good(0, 17)), due -> number(due.good(0, 17))),
        new Call("plans", game -> game.plans(0), due -> due.plans(0)),
        new Call("plans of 1", game -> game.plans(1), due -> due.plans(1)),
        new Call("firstPlan", game -> game.firstPlan(0), due -> due.firstPlan(0)),
        new Call("firstPlan of 1", game -> game.firstPlan(1), due -> due.firstPlan(1)),
        new Call("canForce", game -> number(game.canForce(4, 1)), due -> number(due.canForce(4, 1))),
        new Call("canForce to itself", game -> number(game.canForce(3, 3)), due -> number(due.canForce(3, 3))),
        new Call("contested", ParityGame::contested, Reference::contested),
    };

    /** After these, each kind that asks has an answer that is neither 0 nor false, but for player 1's first plan. */
    private static final Call[] BEGINNING = {
        new Call("set", game -> game.set(4, 0, 3, Inputs.both(4, 1)), due -> due.set(4, 0, 3, Inputs.both(4, 1))),
        new Call("paint", game -> game.paint(5, 1), due -> due.paint(5, 1)),
    };

    /** "An object is used for at most 512 calls after it has been made": so each of 512 is answered. */
    private static void all512CallsOfOneKindAnswer() {
        for (Call kind : CALLS) {
            for (int begun = 0; begun <= BEGINNING.length; begun++) {
                ParityGame game = new ParityGame();
                Reference due = new Reference();
                for (int call = 1; call <= 512; call++) {
                    check(call, call <= begun ? BEGINNING[call - 1] : kind, game, due);
                }
            }
        }
    }

    /** The same sentence: 511 changes that answer nothing, or always the same, and then what they have done. */
    private static void all511ChangesAreMade() {
        for (Call last : CALLS) {
            ParityGame game = new ParityGame();
            Reference due = new Reference();
            for (int call = 1; call < 512; call++) {
                game.mirror();
                due.mirror();
            }
            check(512, last, game, due);
        }
        for (int p = 0; p < 8; p++) {
            ParityGame game = new ParityGame();
            for (int call = 1; call < 512; call++) {
                game.set(p, 0, call % 6, Inputs.both(p, p));
            }
            checks.same("call 512, paint after 511 calls of set", game.paint(p, 0), 511 % 6);
        }
    }

    /** The same sentence: 8 calls of set, many of one kind, then one of each kind, each the 512th in turn. */
    private static void all512CallsOfMixedKindsAnswer() {
        for (int kind = 0; kind < CALLS.length; kind++) {
            ParityGame game = Games.mixed();
            Reference due = Games.mixedReference();
            for (int call = 9; call <= 512 - CALLS.length; call++) {
                check(call, CALLS[kind], game, due);
            }
            for (int i = 1; i <= CALLS.length; i++) {
                check(512 - CALLS.length + i, CALLS[(kind + i) % CALLS.length], game, due);
            }
        }
    }

    private static void check(int at, Call call, ParityGame game, Reference due) {
        checks.same("call " + at + ", " + call.name, call.game.applyAsInt(game), call.due.applyAsInt(due));
    }

    /** "what later calls answer is free", but by LANGUAGE.md no call may ever throw or fail to end. */
    private static void laterCallsEnd() {
        ParityGame game = Games.mixed();
        for (int i = 0; i < 2000; i++) {
            for (Call call : CALLS) {
                if (!call.name.equals("contested") || i % 50 == 0) {
                    call.game.applyAsInt(game);
                }
            }
        }
    }
}
