import java.util.Random;

/** Promises 1 to 20: long runs of right and wrong calls, each answer compared with SlowGame's. */
public final class ModelTest {
    private static final Check CHECK = new Check();

    interface Answer {
        long get();
    }

    private static final long THROWN = 1_000_000;

    /** An answer as a number; a thrown exception as a number that no answer is. */
    private static long answer(Answer call) {
        try {
            return call.get();
        } catch (RuntimeException e) {
            return THROWN + rankOf(e.getClass());
        }
    }

    private static int rankOf(Class<?> thrown) {
        return thrown == IndexOutOfBoundsException.class ? 1
            : thrown == IllegalArgumentException.class ? 2
            : thrown == IllegalStateException.class ? 3 : 4;
    }

    private static final int MOST_CALLS = 512;

    private static String run = "";
    private static int calls = 0;

    /** One call of the object; what it answers after the last that the document allows is free. */
    private static void same(String call, Answer got, Answer due) {
        if (calls < MOST_CALLS) {
            calls++;
            CHECK.equal(run + call, answer(got), answer(due));
        }
    }

    private static void sameState(Quarterboard game, SlowGame slow) {
        same("phase()", game::phase, () -> slow.phase);
        same("onTurn()", game::onTurn, () -> slow.player);
        same("hand()", game::hand, () -> slow.hand);
        same("placed()", game::placed, slow::placed);
        same("winner()", game::winner, () -> slow.winner);
        same("lines()", game::lines, slow::lines);
        same("safe()", game::safe, slow::safe);
    }

    private static void sameAt(Quarterboard game, SlowGame slow, int number) {
        String at = "(" + number + ")";
        same("pieceAt" + at, () -> game.pieceAt(number), () -> slow.pieceAt(number));
        same("onLine" + at, () -> game.onLine(number), () -> slow.onLine(number));
        same("shared" + at, () -> game.shared(number), () -> slow.shared(number));
        same("winning" + at, () -> game.winning(number), () -> slow.winning(number));
    }

    private static void sameOutlook(Quarterboard game, SlowGame slow, int most) {
        for (int n = 0; n <= 5; n++) {
            int placings = n;
            if (n == 4 && n > most && slow.phase != 2 && slow.placed() >= 10) {
                continue;
            }
            same("worth(" + n + ")", () -> game.worth(placings), () -> slow.worth(placings));
            same("best(" + n + ")", () -> game.best(placings), () -> slow.best(placings));
        }
    }

    private static void sameLikeness(Quarterboard game, SlowGame slow) {
        same("isAlike()", () -> game.isAlike() ? 1 : 0, () -> slow.isAlike() ? 1 : 0);
        same("symmetries()", game::symmetries, slow::symmetries);
    }

    /** Gives a piece that is safe and places it without a win, mostly, so that games last. */
    private static void step(Quarterboard game, SlowGame slow, Random random) {
        int number = random.nextInt(16);
        if (random.nextInt(8) == 0) {
            number = random.nextInt(40) - 12;
        } else if (slow.phase == 0) {
            int pieces = slow.safe();
            for (int tries = 0; tries < 40 && (pieces >> number & 1) == 0; tries++) {
                number = random.nextInt(16);
            }
        } else if (slow.phase == 1 && random.nextInt(5) != 0) {
            int wins = slow.winning(slow.hand);
            for (int tries = 0; tries < 40
                    && (slow.board[number] >= 0 || (wins >> number & 1) != 0); tries++) {
                number = random.nextInt(16);
            }
        }
        int chosen = number;
        if (slow.phase == 1 ^ random.nextInt(12) == 0) {
            same("place(" + chosen + ")", () -> game.place(chosen), () -> slow.place(chosen));
        } else {
            same("give(" + chosen + ")", () -> game.give(chosen), () -> slow.give(chosen));
        }
    }

    private static void runOf(int seed) {
        Random random = new Random(seed);
        Quarterboard game = new Quarterboard();
        SlowGame slow = new SlowGame();
        int most = seed % 4 == 0 ? 4 : 3;
        calls = 0;
        while (calls < MOST_CALLS) {
            run = "seed " + seed + ", call " + calls + ": ";
            step(game, slow, random);
            sameState(game, slow);
            if (random.nextInt(8) == 0) {
                for (int number = -1; number <= 19; number++) {
                    sameAt(game, slow, number);
                }
            } else {
                sameAt(game, slow, random.nextInt(21) - 1);
            }
            if (random.nextInt(slow.placed() >= 6 ? 2 : 6) == 0) {
                sameOutlook(game, slow, most);
            }
            if (random.nextInt(6) == 0) {
                sameLikeness(game, slow);
            }
            if (random.nextInt(slow.phase == 2 ? 3 : 60) == 0) {
                boolean hasBlocks = random.nextBoolean();
                same("begin", () -> game.begin(hasBlocks), () -> slow.begin(hasBlocks));
            }
            if (random.nextInt(15) == 0) {
                same("keep()", game::keep, slow::keep);
            }
        }
    }

    /** A board, and the same turned and renamed, now and then with one piece changed. */
    private static void likeness(int seed) {
        Random random = new Random(seed);
        int[] names = shuffled(random, 4);
        int exchanged = random.nextInt(16);
        int turns = random.nextInt(4);
        boolean mirrored = random.nextBoolean();
        int[] pieces = shuffled(random, 16);
        int[] squares = shuffled(random, 16);
        int count = random.nextInt(7);
        Quarterboard game = new Quarterboard();
        SlowGame slow = new SlowGame();
        run = "likeness " + seed + ": ";
        calls = 0;
        for (int i = 0; i < count && slow.phase == 0; i++) {
            both(game, slow, pieces[i], squares[i]);
        }
        int stood = slow.placed();
        sameLikeness(game, slow);
        game.keep();
        slow.keep();
        game.begin(false);
        slow.begin(false);
        for (int i = 0; i < stood; i++) {
            int piece = exchanged;
            for (int mark = 0; mark < 4; mark++) {
                piece ^= (pieces[i] >> mark & 1) << names[mark];
            }
            int square = squares[i];
            for (int turn = 0; turn < turns; turn++) {
                square = square % 4 * 4 + 3 - square / 4;
            }
            if (mirrored) {
                square = square / 4 * 4 + 3 - square % 4;
            }
            boolean changed = seed % 3 == 0 && i == stood - 1;
            both(game, slow, changed ? random.nextInt(16) : piece, square);
        }
        sameLikeness(game, slow);
        if (seed % 3 != 0) {
            CHECK.equal(run + "isAlike()", game.isAlike(), true);
        }
    }

    private static void both(Quarterboard game, SlowGame slow, int piece, int square) {
        same("give(" + piece + ")", () -> game.give(piece), () -> slow.give(piece));
        same("place(" + square + ")", () -> game.place(square), () -> slow.place(square));
    }

    private static int[] shuffled(Random random, int count) {
        int[] numbers = new int[count];
        for (int i = 0; i < count; i++) {
            int j = random.nextInt(i + 1);
            numbers[i] = numbers[j];
            numbers[j] = i;
        }
        return numbers;
    }

    public static void main(String[] args) {
        for (int seed = 1; seed <= 600; seed++) {
            runOf(seed);
        }
        for (int seed = 1; seed <= 1500; seed++) {
            likeness(seed);
        }
        CHECK.end();
    }
}
