/** Promises 14 to 17: where a piece wins, what is safe, and the worth of positions. */
public final class OutlookTest {
    private static final Check CHECK = new Check();

    private static void promise14Winning() {
        Quarterboard game = Games.game(false, 0, 0, 1, 1);
        CHECK.equal("winning with two on the line", game.winning(2), 0);
        Games.play(game, 2, 2);
        CHECK.equal("winning", game.winning(4), 1 << 3);
        CHECK.equal("winning of 15", game.winning(15), 0);
        CHECK.notNow("winning of a piece on the board", () -> game.winning(1));
        CHECK.noPlace("winning(-1)", () -> game.winning(-1));
        CHECK.noPlace("winning(16)", () -> game.winning(16));
        game.give(15);
        CHECK.equal("winning of another piece than the hand's", game.winning(4), 1 << 3);
        CHECK.equal("winning of the hand's", game.winning(15), 0);
        game.place(12);
        Games.play(game, 14, 13, 13, 14);
        CHECK.equal("winning of 3: row 0", game.winning(3), 1 << 3);
        CHECK.equal("winning of 12: row 3", game.winning(12), 1 << 15);
        CHECK.equal("winning of 11: both rows", game.winning(11), 1 << 3 | 1 << 15);
        game.give(11);
        CHECK.equal("placing there does win", game.place(15), 1);
        CHECK.notNow("winning when it is over", () -> game.winning(4));
        CHECK.notNow("winning of a piece on the board, over", () -> game.winning(0));
        CHECK.noPlace("winning(16) when it is over", () -> game.winning(16));

        int[] block = {0, 0, 1, 1, 2, 4};
        CHECK.equal("winning in a block", Games.game(true, block).winning(4), 1 << 5);
        CHECK.equal("no block, no win", Games.game(false, block).winning(4), 0);
        Quarterboard corner = Games.game(false, 0, 0, 1, 1, 2, 2, 3, 15, 4, 11);
        Games.play(corner, 5, 7);
        CHECK.equal("one square by two lines", corner.winning(6), 1 << 3);
    }

    private static void promise15Safe() {
        Quarterboard game = new Quarterboard();
        CHECK.equal("all are safe at first", game.safe(), 0xFFFF);
        game.give(4);
        CHECK.notNow("safe with a piece in the hand", game::safe);
        game.place(9);
        CHECK.equal("all but the one placed", game.safe(), 0xFFEF);
        Games.play(game, 0, 0, 1, 1, 2, 2);
        CHECK.equal("those with mark 2 and mark 3", game.safe(), 0xF000);
        Games.play(game, 15, 3);
        CHECK.equal("safe again when the line is full", game.safe(), 0xFFFF & ~0x8017);
        Quarterboard won = Games.game(false, 0, 0, 1, 1, 2, 2, 4, 3);
        CHECK.notNow("safe when it is over", won::safe);
        int[] block = {0, 0, 1, 1, 2, 4};
        CHECK.equal("safe with a block", Games.game(true, block).safe(), 0xF000);
        CHECK.equal("safe without", Games.game(false, block).safe(), 0xFFF8);
        Quarterboard none = Games.game(false, 0, 0, 1, 1, 2, 2, 15, 4, 14, 5, 13, 6);
        CHECK.equal("safe is nothing", none.safe(), 0);
        CHECK.equal("safe before the last piece", Games.game(true, Games.drawn(15)).safe(), 1 << 7);
    }

    private static void promise16Worth() {
        Quarterboard game = new Quarterboard();
        CHECK.noArgument("worth(0)", () -> game.worth(0));
        CHECK.noArgument("worth(5)", () -> game.worth(5));
        CHECK.noArgument("worth(-1)", () -> game.worth(-1));
        CHECK.noArgument("worth(least)", () -> game.worth(Integer.MIN_VALUE));
        CHECK.equal("worth(1) at first", game.worth(1), 0);
        CHECK.equal("worth(2) at first", game.worth(2), 0);
        CHECK.notNow("worth(3) at first", () -> game.worth(3));
        CHECK.notNow("worth(4) at first", () -> game.worth(4));
        emptySquaresThatAreTooMany();

        Quarterboard none = Games.game(false, 0, 0, 1, 1, 2, 2, 15, 4, 14, 5, 13, 6);
        CHECK.equal("no piece is safe: worth(1)", none.worth(1), -1);
        CHECK.equal("no piece is safe: worth(2)", none.worth(2), -1);
        none.give(12);
        CHECK.equal("to place: worth(1)", none.worth(1), 1);
        CHECK.equal("to place: worth(2)", none.worth(2), 1);
        Quarterboard won = Games.game(false, 0, 0, 1, 1, 2, 2, 4, 3);
        CHECK.notNow("worth when it is over", () -> won.worth(1));
        CHECK.noArgument("worth(5) when it is over", () -> won.worth(5));

        Quarterboard last = Games.game(true, Games.drawn(15));
        CHECK.equal("the last piece: worth", last.worth(4), 0);
        last.give(7);
        for (int placings = 1; placings <= 4; placings++) {
            CHECK.equal("nobody wins a full board", last.worth(placings), 0);
        }
        last.place(15);
        CHECK.notNow("worth of a full board", () -> last.worth(1));
    }

    private static void emptySquaresThatAreTooMany() {
        for (int pieces = 0; pieces < 16; pieces++) {
            Quarterboard game = Games.game(true, Games.drawn(pieces));
            Class<?> three = pieces < 8 ? IllegalStateException.class : null;
            Class<?> four = pieces < 10 ? IllegalStateException.class : null;
            for (int phase = 0; phase < 2; phase++) {
                String at = " with " + pieces + " placed";
                CHECK.fails("worth(2)" + at, null, () -> game.worth(2));
                CHECK.fails("best(2)" + at, null, () -> game.best(2));
                CHECK.fails("worth(3)" + at, three, () -> game.worth(3));
                CHECK.fails("best(3)" + at, three, () -> game.best(3));
                CHECK.fails("worth(4)" + at, four, () -> game.worth(4));
                CHECK.fails("best(4)" + at, four, () -> game.best(4));
                if (phase == 0) {
                    game.give(Games.DRAWN[2 * pieces]);
                }
            }
        }
    }

    private static void promise17Best() {
        Quarterboard game = new Quarterboard();
        CHECK.noArgument("best(0)", () -> game.best(0));
        CHECK.noArgument("best(5)", () -> game.best(5));
        CHECK.noArgument("best(most)", () -> game.best(Integer.MAX_VALUE));
        CHECK.notNow("best(3) at first", () -> game.best(3));
        CHECK.equal("best piece at first", game.best(2), 0);
        Games.play(game, 0, 0);
        CHECK.equal("best piece: the lowest that is free", game.best(1), 1);
        game.give(1);
        CHECK.equal("best square: the lowest that is empty", game.best(1), 1);
        game.place(1);
        Games.play(game, 2, 2);
        CHECK.equal("best piece is a safe one", game.best(1), 12);
        game.give(4);
        CHECK.equal("best square is the winning one", game.best(1), 3);
        CHECK.equal("best square within two", game.best(2), 3);
        game.place(3);
        CHECK.notNow("best when it is over", () -> game.best(1));
        CHECK.noArgument("best(0) when it is over", () -> game.best(0));
        Quarterboard none = Games.game(false, 0, 0, 1, 1, 2, 2, 15, 4, 14, 5, 13, 6);
        CHECK.equal("best when all lose", none.best(2), 3);
        Quarterboard last = Games.game(true, Games.drawn(15));
        CHECK.equal("best: the last piece", last.best(4), 7);
        last.give(7);
        CHECK.equal("best: the last square", last.best(4), 15);
    }

    /** Positions whose worth changes with the placings, found by playing many games. */
    private static void winsFurtherAhead() {
        int[] seen = new int[5];
        for (int seed = 1; seed <= 400; seed++) {
            java.util.Random random = new java.util.Random(seed);
            Quarterboard game = Games.game(seed % 2 == 0);
            int empty = 0xFFFF;
            int pieces = game.safe();
            while (pieces != 0) {
                game.give(oneOf(pieces, random));
                count(game, seen);
                int square = oneOf(empty, random);
                game.place(square);
                empty &= ~(1 << square);
                pieces = empty == 0 ? 0 : game.safe();
                count(game, seen);
            }
        }
        for (int placings = 2; placings <= 4; placings++) {
            CHECK.equal("a first win within " + placings + " is met", seen[placings] > 0, true);
        }
    }

    private static int oneOf(int set, java.util.Random random) {
        int number = random.nextInt(16);
        while ((set >> number & 1) == 0) {
            number = (number + 1) % 16;
        }
        return number;
    }

    /** Counts the wins that are seen only when one looks so far ahead. */
    private static void count(Quarterboard game, int[] seen) {
        if (game.placed() < 10 || game.phase() == 2) {
            return;
        }
        for (int placings = 2; placings <= 4; placings++) {
            int now = game.worth(placings);
            int before = game.worth(placings - 1);
            CHECK.equal("a worth stays when one looks further", before == 0 || before == now, true);
            if (before == 0 && now == 1) {
                seen[placings]++;
                int parity = game.phase() == 0 ? 0 : 1;
                CHECK.equal("whose placing wins", placings % 2, parity);
            }
        }
    }

    public static void main(String[] args) {
        promise14Winning();
        promise15Safe();
        promise16Worth();
        promise17Best();
        winsFurtherAhead();
        CHECK.end();
    }
}
