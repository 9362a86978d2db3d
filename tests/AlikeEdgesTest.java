import java.util.Arrays;

/** Promises 18 to 20, and what Terms say of alike boards, at the edges that each sentence names. */
public final class AlikeEdgesTest {
    private static final Check CHECK = new Check();

    /** Five pieces that only the way that changes nothing brings to themselves. */
    private static final int[] PLAIN = {0, 0, 1, 1, 3, 6, 7, 8, 12, 15};

    // ---- keep

    private static void inPlaceOfTheOneBefore() {
        CHECK.sentence("Promise 18",
            "Keeps the board as it is now, in place of one that was kept before.");
        Quarterboard game = Games.game(true, PLAIN);
        game.keep();
        CHECK.equal("kept", game.isAlike(), true);
        Games.play(game, 10, 9);
        CHECK.equal("the kept board stays as it was", game.isAlike(), false);
        game.keep();
        CHECK.equal("kept in place", game.isAlike(), true);
        game.begin(true);
        Games.play(game, PLAIN);
        CHECK.equal("the one before is no more", game.isAlike(), false);
        Games.play(game, 10, 9);
        CHECK.equal("the kept board again", game.isAlike(), true);
        game.begin(false);
        game.keep();
        CHECK.equal("an empty board in place", game.isAlike(), true);
        Games.play(game, PLAIN);
        CHECK.equal("a board that is not empty", game.isAlike(), false);
        game.keep();
        game.keep();
        CHECK.equal("kept twice", game.isAlike(), true);
        for (Position position : Position.values()) {
            Quarterboard other = position.make();
            other.keep();
            CHECK.equal("kept in " + position, other.isAlike(), true);
            Quarterboard untouched = position.make();
            CHECK.equal("keep changes nothing else in " + position,
                withoutAlike(Answers.of(other)), withoutAlike(Answers.of(untouched)));
        }
    }

    private static String withoutAlike(String answers) {
        return answers.replaceAll("isAlike\\(\\)=\\S+", "");
    }

    private static void howManyAreKept() {
        CHECK.sentence("Promise 18", "Returns number of pieces on it.");
        Quarterboard game = new Quarterboard();
        for (int i = 0; i < 16; i++) {
            CHECK.equal("keep, to give", game.keep(), i);
            game.give(Games.DRAWN[2 * i]);
            CHECK.equal("keep, to place", game.keep(), i);
            game.place(Games.DRAWN[2 * i + 1]);
        }
        CHECK.equal("keep of a full board", game.keep(), 16);
        for (Position position : Position.values()) {
            CHECK.equal("keep in " + position, position.make().keep(), position.placed());
        }
    }

    // ---- isAlike

    private static void whatDoesNotMatter() {
        CHECK.sentence("Promise 19", "Returns whether the board is alike the kept one. The piece in the"
            + " hand does not matter, nor whether there are blocks.");
        for (int kept = 0; kept < 4; kept++) {
            for (int now = 0; now < 4; now++) {
                Quarterboard game = Games.game(kept % 2 == 1, PLAIN);
                handOf(game, kept / 2);
                game.keep();
                game.begin(now % 2 == 1);
                Games.play(game, PLAIN);
                CHECK.equal("to give, " + kept + " " + now, game.isAlike(), true);
                handOf(game, now / 2);
                CHECK.equal("hands and blocks, " + kept + " " + now, game.isAlike(), true);
            }
        }
        Quarterboard empty = Games.game(false, 3);
        empty.keep();
        empty.begin(true);
        CHECK.equal("empty boards", empty.isAlike(), true);
        empty.give(15);
        CHECK.equal("empty boards, a piece in the hand", empty.isAlike(), true);
        empty.place(0);
        CHECK.equal("a piece on the board", empty.isAlike(), false);
        Quarterboard over = Games.game(true, Games.BLOCK);
        over.keep();
        over.begin(false);
        Games.play(over, Games.BLOCK);
        CHECK.equal("won there, not won here", over.isAlike(), true);
    }

    private static void handOf(Quarterboard game, int hasPiece) {
        if (hasPiece == 1) {
            game.give(14);
        }
    }

    private static void noBoardIsKept() {
        CHECK.sentence("Promise 19", "Throws `IllegalStateException` if no board is kept");
        for (Position position : Position.values()) {
            Quarterboard game = position.make();
            Class<?> due = position.kept == null ? IllegalStateException.class : null;
            CHECK.fails("isAlike in " + position, due, game::isAlike);
            game.begin(true);
            CHECK.fails("isAlike, begun", due, game::isAlike);
            game.keep();
            CHECK.fails("isAlike, kept", null, game::isAlike);
            game.begin(false);
            CHECK.fails("isAlike, kept and begun", null, game::isAlike);
        }
    }

    /** Each of the 8 * 384 ways, of a board that each of them makes another one. */
    private static void eachWay() {
        CHECK.sentence("Terms", "Two boards are alike if one becomes the other by one of the 8 turns and"
            + " reflections of the square, together with one of the 384 ways in which the marks can be"
            + " renamed among themselves, and the digits of some marks exchanged, for all pieces"
            + " alike.");
        int[] full = Games.DRAWN;
        int ways = 0;
        for (int turn = 0; turn < 8; turn++) {
            for (int names = 0; names < 256; names++) {
                if (renames(names)) {
                    for (int exchanged = 0; exchanged < 16; exchanged++) {
                        ways++;
                        String way = " by " + turn + ", " + names + ", " + exchanged;
                        alike("full" + way, full, changed(full, turn, names, exchanged), true);
                        alike("five" + way, PLAIN, changed(PLAIN, turn, names, exchanged), true);
                        int[] other = changed(PLAIN, turn, names, exchanged);
                        other[0] = pieceNotIn(other);
                        alike("another piece" + way, PLAIN, other, new SlowAlike(PLAIN).to(other));
                        int[] crossed = changed(full, turn, names, exchanged);
                        crossed[0] ^= 15;
                        crossed[2 * indexOf(changed(full, turn, names, exchanged), crossed[0])] ^= 15;
                        alike("crossed" + way, full, crossed, false);
                    }
                }
            }
        }
        CHECK.equal("so many ways", ways, 8 * 384);
    }

    /** Whether the two binary digits for each mark name each mark once. */
    private static boolean renames(int names) {
        int seen = 0;
        for (int mark = 0; mark < 4; mark++) {
            seen |= 1 << (names >> 2 * mark & 3);
        }
        return seen == 15;
    }

    private static int[] changed(int[] moves, int turn, int names, int exchanged) {
        int[] result = new int[moves.length];
        for (int i = 0; i < moves.length; i += 2) {
            int piece = exchanged;
            for (int mark = 0; mark < 4; mark++) {
                piece ^= (moves[i] >> mark & 1) << (names >> 2 * mark & 3);
            }
            result[i] = piece;
            result[i + 1] = turned(moves[i + 1], turn);
        }
        return result;
    }

    /** So many quarter turns, and from 4 on a reflection before. */
    private static int turned(int square, int turn) {
        int now = turn < 4 ? square : square / 4 * 4 + 3 - square % 4;
        for (int quarter = 0; quarter < turn % 4; quarter++) {
            now = now % 4 * 4 + 3 - now / 4;
        }
        return now;
    }

    private static int pieceNotIn(int[] moves) {
        int piece = 0;
        while (indexOf(moves, piece) >= 0) {
            piece++;
        }
        return piece;
    }

    private static int indexOf(int[] moves, int piece) {
        for (int i = 0; i < moves.length; i += 2) {
            if (moves[i] == piece) {
                return i / 2;
            }
        }
        return -1;
    }

    private static void alike(String what, int[] kept, int[] now, boolean due) {
        Quarterboard game = new Quarterboard();
        Games.play(game, kept);
        game.keep();
        game.begin(false);
        Games.play(game, now);
        CHECK.equal(what, game.isAlike(), due);
    }

    private static void boardsThatAreNot() {
        CHECK.sentence("Promise 19", "Returns true if it is.");
        alike("one piece, corner to corner", new int[] {0, 0}, new int[] {13, 15}, true);
        alike("one piece, corner to edge", new int[] {0, 0}, new int[] {0, 1}, false);
        alike("one piece, corner to centre", new int[] {0, 0}, new int[] {0, 5}, false);
        alike("one piece, edge to edge", new int[] {3, 1}, new int[] {12, 11}, true);
        alike("one piece, edge to centre", new int[] {3, 1}, new int[] {3, 6}, false);
        alike("none and one", new int[0], new int[] {0, 0}, false);
        alike("one and none", new int[] {0, 0}, new int[0], false);
        alike("none and none", new int[0], new int[0], true);
        for (int other = 1; other < 16; other++) {
            alike("0 and 7, 0 and " + other, new int[] {0, 5, 7, 6}, new int[] {0, 5, other, 6},
                Integer.bitCount(other) == 3);
        }
        alike("shifted by a column", new int[] {0, 0, 1, 5}, new int[] {0, 1, 1, 6}, false);
        alike("a row round the edge", new int[] {0, 3, 1, 4}, new int[] {0, 7, 1, 8}, false);
        alike("the same squares, other pairs", new int[] {0, 0, 1, 3, 15, 1},
            new int[] {0, 0, 14, 3, 15, 1}, false);
        alike("fifteen and sixteen", Games.drawn(15), Games.DRAWN, false);
        alike("sixteen and fifteen", Games.DRAWN, Games.drawn(15), false);
        alike("two full boards", Games.DRAWN, Games.FULL_WON_BY_BLOCK, false);
        alike("a full board", Games.DRAWN, Games.DRAWN, true);
        alike("marks renamed for one piece alone", new int[] {0, 0, 1, 1, 3, 2},
            new int[] {0, 0, 2, 1, 5, 2}, false);
        alike("digits exchanged for one piece alone", new int[] {0, 0, 1, 1, 3, 2},
            new int[] {0, 0, 1, 1, 2, 2}, false);
    }

    // ---- symmetries

    private static void howManySymmetries() {
        CHECK.sentence("Promise 20", "Returns 1 to 3072.");
        symmetries("an empty board", 3072);
        symmetries("a piece on a corner", 2 * 24, 0, 0);
        symmetries("a piece on an edge", 24, 15, 4);
        symmetries("a piece in the centre", 2 * 24, 7, 10);
        symmetries("a board without", 1, PLAIN);
        symmetries("a full board", 1, Games.DRAWN);
        symmetries("two pieces, all marks apart", 2 * 24, 0, 0, 15, 3);
        symmetries("two pieces, one mark apart", 2 * 6, 0, 0, 1, 3);
        symmetries("the centre, each two marks apart or four", 8 * 4, 0, 5, 3, 6, 15, 10, 12, 9);
        symmetries("two marks that are the same on all pieces", 2, 0, 0, 1, 1, 3, 6);
        for (Position position : Position.values()) {
            int[] onBoard = Arrays.copyOf(position.moves, 2 * position.placed());
            Quarterboard game = position.make();
            CHECK.equal("symmetries of " + position, game.symmetries(),
                new SlowAlike(onBoard).ways(onBoard));
        }
        Quarterboard begun = Games.game(true, PLAIN);
        CHECK.equal("not of the kept board", begun.symmetries(), 1);
        begun.keep();
        begun.begin(false);
        CHECK.equal("empty again", begun.symmetries(), 3072);
        begun.give(9);
        CHECK.equal("a piece in the hand", begun.symmetries(), 3072);
    }

    private static void itselfByEachWay() {
        CHECK.sentence("Promise 20", "Counts the ways in which the board becomes itself, of the 8 * 384"
            + " ways in which boards are alike.");
        java.util.Random random = new java.util.Random(20);
        for (int i = 0; i < 300; i++) {
            int[] moves = new int[2 * random.nextInt(8)];
            Quarterboard game = new Quarterboard();
            for (int j = 0; j < moves.length && game.phase() == 0; j += 2) {
                do {
                    moves[j] = random.nextInt(16);
                } while (indexOf(Arrays.copyOf(moves, j), moves[j]) >= 0);
                do {
                    moves[j + 1] = random.nextInt(16);
                } while (game.pieceAt(moves[j + 1]) >= 0);
                Games.play(game, moves[j], moves[j + 1]);
            }
            int[] onBoard = Arrays.copyOf(moves, 2 * game.placed());
            CHECK.equal("symmetries of " + Arrays.toString(onBoard), game.symmetries(),
                new SlowAlike(onBoard).ways(onBoard));
        }
    }

    private static void symmetries(String what, int due, int... moves) {
        CHECK.equal(what, Games.game(false, moves).symmetries(), due);
        CHECK.equal(what + ", with blocks", Games.game(true, moves).symmetries(), due);
    }

    /** Tries all ways, one by one. */
    private static final class SlowAlike {
        private final int[] moves;

        SlowAlike(int[] moves) {
            this.moves = moves;
        }

        boolean to(int[] other) {
            return ways(other) > 0;
        }

        int ways(int[] other) {
            int[] goal = board(other);
            int ways = 0;
            for (int turn = 0; turn < 8; turn++) {
                for (int names = 0; names < 256; names++) {
                    for (int exchanged = 0; exchanged < 16 && renames(names); exchanged++) {
                        if (Arrays.equals(board(changed(moves, turn, names, exchanged)), goal)) {
                            ways++;
                        }
                    }
                }
            }
            return ways;
        }

        private static int[] board(int[] moves) {
            int[] board = new int[16];
            Arrays.fill(board, -1);
            for (int i = 0; i < moves.length; i += 2) {
                board[moves[i + 1]] = moves[i];
            }
            return board;
        }
    }

    public static void main(String[] args) {
        inPlaceOfTheOneBefore();
        howManyAreKept();
        whatDoesNotMatter();
        noBoardIsKept();
        eachWay();
        boardsThatAreNot();
        howManySymmetries();
        itselfByEachWay();
        CHECK.end();
    }
}
