import java.util.Random;

/** Long runs of calls, each answer held against the reference; the seeds are fixed. */
final class RandomRunsTest {
    private static final Checks checks = new Checks();
    private static final int[] WRONG = {-1, -2, 8, 9, 6, 2, 31, 32, 256, -8, Integer.MAX_VALUE, Integer.MIN_VALUE};

    private final Random random;
    private final String run;
    private final ParityGame game = new ParityGame();
    private final Reference reference = new Reference();

    private RandomRunsTest(int seed) {
        random = new Random(seed);
        run = "run " + seed + ", call ";
    }

    public static void main(String[] args) {
        for (int seed = 0; seed < 120; seed++) {
            new RandomRunsTest(seed).play();
        }
        checks.end();
    }

    private void play() {
        int calls = 0;
        if (random.nextInt(4) != 0) {
            for (int p = 0; p < 8; p++) {
                int player = random.nextInt(2);
                int colour = random.nextInt(6);
                int moves = random.nextInt();
                checks.same(run + calls + ": set", game.set(p, player, colour, moves),
                    reference.set(p, player, colour, moves));
                calls++;
            }
        }
        int region = reference.region();
        checks.same(run + "the reference's two ways", reference.regionByAttractors(255), region);
        checks.same(run + "the reference's two players", reference.wonBy(1), 255 & ~region);
        for (; calls < 512; calls++) {
            call(run + calls + ": ");
        }
    }

    private int pick(int end) {
        return random.nextInt(12) == 0 ? WRONG[random.nextInt(WRONG.length)] : random.nextInt(end);
    }

    private int pickMask() {
        return random.nextInt(3) == 0 ? random.nextInt() : random.nextInt(256);
    }

    private void call(String at) {
        int kind = random.nextInt(11);
        if (kind < 4) {
            change(at, kind);
        } else {
            ask(at, kind);
        }
    }

    private void change(String at, int kind) {
        int p = pick(8);
        int player = pick(2);
        int colour = pick(6);
        int moves = pickMask();
        String given = "(" + p + ", " + player + ", " + colour + ", " + moves + ")";
        switch (kind) {
            case 0:
                checks.same(at + "set" + given, game.set(p, player, colour, moves),
                    reference.set(p, player, colour, moves));
                break;
            case 1:
                checks.same(at + "paint" + given, game.paint(p, colour), reference.paint(p, colour));
                break;
            case 2:
                checks.same(at + "hand" + given, game.hand(p), reference.hand(p));
                break;
            default:
                game.mirror();
                reference.mirror();
                break;
        }
    }

    private void ask(String at, int kind) {
        int a = pick(8);
        int b = pick(8);
        int player = pick(2);
        int choices = pickMask();
        String given = "(" + a + ", " + b + ", " + player + ", " + choices + ")";
        switch (kind) {
            case 4:
                checks.same(at + "winner" + given, game.winner(a), reference.winner(a));
                break;
            case 5:
                checks.same(at + "region", game.region(), reference.region());
                break;
            case 6:
                checks.same(at + "good" + given, game.good(player, choices), reference.good(player, choices));
                break;
            case 7:
                checks.same(at + "plans" + given, game.plans(player), reference.plans(player));
                break;
            case 8:
                checks.same(at + "firstPlan" + given, game.firstPlan(player), reference.firstPlan(player));
                break;
            case 9:
                checks.same(at + "canForce" + given, game.canForce(a, b), reference.canForce(a, b));
                break;
            default:
                checks.same(at + "contested", game.contested(), reference.contested());
                break;
        }
    }
}
