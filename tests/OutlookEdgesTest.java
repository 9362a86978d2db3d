/** Promises 14 to 17, and what Terms say of the worth, at the edges that each sentence names. */
public final class OutlookEdgesTest {
    private static final Check CHECK = new Check();

    private static final int[] NO_PIECES = {
        Integer.MIN_VALUE, -32, -16, -1, 16, 17, 32, 48, 65536, Integer.MAX_VALUE
    };
    private static final int[] NO_PLACINGS = {
        Integer.MIN_VALUE, Integer.MIN_VALUE + 1, -4, -1, 0, 5, 6, 8, 257, 65537, Integer.MAX_VALUE
    };

    // ---- winning

    /** Places each piece on each square, in a position of every kind. */
    private static void winsWherePlacingItWins() {
        CHECK.sentence("Promise 14",
            "Returns the squares on which a piece would win if it was placed there now.");
        for (Position position : Position.values()) {
            for (int piece = 0; piece < 16; piece++) {
                if (position.phase == 0 && !position.isOnBoard(piece)) {
                    int due = wonOn(position, piece);
                    String what = position + ": winning(" + piece + ")";
                    CHECK.equal(what, position.make().winning(piece), due);
                    Quarterboard given = position.make();
                    given.give(piece);
                    CHECK.equal(what + ", given", given.winning(piece), due);
                }
            }
        }
    }

    private static int wonOn(Position position, int piece) {
        int set = 0;
        for (int square = 0; square < 16; square++) {
            if (position.pieceAt(square) < 0) {
                Quarterboard game = position.make();
                game.give(piece);
                if (game.place(square) > 0) {
                    set |= 1 << square;
                }
            }
        }
        return set;
    }

    private static void whereAPieceWins() {
        CHECK.sentence("Promise 14", "Returns the squares, as a set: bit s for square s.");
        for (int line = 0; line < 19; line++) {
            int[] squares = Games.squaresOf(line);
            for (int missing = 0; missing < 4; missing++) {
                Quarterboard game = Games.game(true);
                int[] pieces = {1, 7, 11};
                for (int i = 0; i < 3; i++) {
                    CHECK.equal("fewer than three on " + line, game.winning(5), 0);
                    Games.play(game, pieces[i], squares[(missing + 1 + i) % 4]);
                }
                for (int piece = 0; piece < 16; piece++) {
                    if (piece != 1 && piece != 7 && piece != 11) {
                        CHECK.equal(piece + " on line " + line, game.winning(piece),
                            piece % 2 == 1 ? 1 << squares[missing] : 0);
                    }
                }
            }
        }
        for (int piece = 0; piece < 16; piece++) {
            CHECK.equal("an empty board", new Quarterboard().winning(piece), 0);
        }
        Quarterboard two = Games.game(false, 0, 0, 1, 1, 2, 2, 15, 12, 14, 13, 13, 14);
        CHECK.equal("two squares, 3 and 15", two.winning(11), 1 << 3 | 1 << 15);
        Quarterboard meeting = Games.game(true, Games.BEFORE_SEVEN_LINES);
        CHECK.equal("one square by seven lines", meeting.winning(0) >> 5 & 1, 1);
        int[] block = Games.first(3, Games.BLOCK);
        CHECK.equal("a block", Games.game(true, block).winning(4), 1 << 5);
        CHECK.equal("no block", Games.game(false, block).winning(4), 0);
    }

    private static void whichPiecesCanBeAskedFor() {
        CHECK.sentence("Promise 14", "`piece`: a piece that is not on the board");
        int[] three = Games.first(3, Games.WON);
        Quarterboard game = Games.game(false, three);
        game.give(15);
        CHECK.equal("another than the hand's", game.winning(4), 1 << 3);
        CHECK.equal("the hand's", game.winning(15), 0);
        Quarterboard hand = Games.game(false, Games.given(three, 4));
        CHECK.equal("the hand's, that wins", hand.winning(4), 1 << 3);
        CHECK.equal("another, that does not", hand.winning(12), 0);
        Quarterboard last = Games.game(true, Games.first(15, Games.FULL_WON));
        CHECK.equal("the last piece", last.winning(0), 1 << 9);
        last.give(0);
        CHECK.equal("the last piece, in the hand", last.winning(0), 1 << 9);
        CHECK.equal("the last piece, that does not win",
            Games.game(true, Games.drawn(15)).winning(7), 0);
    }

    private static void noSuchPieceThatWins() {
        CHECK.sentence("Promise 14", "Throws `IndexOutOfBoundsException` if there is no such piece");
        for (Position position : Position.values()) {
            Quarterboard game = position.make();
            for (int piece : NO_PIECES) {
                CHECK.noPlace(position + ": winning(" + piece + ")", () -> game.winning(piece));
            }
        }
    }

    private static void noPieceThatWinsNow() {
        CHECK.sentence("Promise 14",
            "Throws `IllegalStateException` if the piece is on the board, or the game is over");
        for (Position position : Position.values()) {
            Quarterboard game = position.make();
            for (int n = 0; n < 16; n++) {
                int piece = n;
                boolean isNotNow = position.phase == 2 || position.isOnBoard(piece);
                CHECK.fails(position + ": winning(" + n + ")",
                    isNotNow ? IllegalStateException.class : null, () -> game.winning(piece));
            }
        }
    }

    // ---- safe

    private static void safeWhereNothingWins() {
        CHECK.sentence("Promise 15",
            "Returns the pieces that can be given without letting the other player win at once.");
        for (Position position : Position.values()) {
            if (position.phase == 0) {
                int due = 0;
                for (int piece = 0; piece < 16; piece++) {
                    if (!position.isOnBoard(piece) && wonOn(position, piece) == 0) {
                        due |= 1 << piece;
                    }
                }
                CHECK.equal(position + ": safe()", position.make().safe(), due);
            }
        }
    }

    private static void whatIsSafe() {
        CHECK.sentence("Promise 15", "Returns the pieces, as a set: bit p for piece p.");
        CHECK.equal("an empty board", new Quarterboard().safe(), 0xFFFF);
        for (int piece = 0; piece < 16; piece++) {
            Quarterboard one = Games.game(true, piece, 15 - piece);
            CHECK.equal("all but the one on the board", one.safe(), 0xFFFF & ~(1 << piece));
        }
        for (int mark = 0; mark < 4; mark++) {
            for (int digit = 0; digit < 2; digit++) {
                for (int line = 0; line < 19; line++) {
                    safeBesideThree(line, mark, digit);
                }
            }
        }
        int[] all = {0, 0, 1, 1, 2, 2, 15, 4, 14, 5, 13, 6};
        CHECK.equal("none is safe", Games.game(false, all).safe(), 0);
        int[] block = Games.first(3, Games.BLOCK);
        CHECK.equal("a block", Games.game(true, block).safe(), 0xFF00 & ~0x0F00);
        CHECK.equal("no block", Games.game(false, block).safe(), 0xFFFF & ~0x0007);
        CHECK.equal("the last piece", Games.game(true, Games.drawn(15)).safe(), 1 << 7);
        int[] lastWins = Games.first(15, Games.FULL_WON);
        CHECK.equal("the last piece, that wins", Games.game(true, lastWins).safe(), 0);
        int[] lastInBlock = Games.first(15, Games.FULL_WON_BY_BLOCK);
        CHECK.equal("the last piece, that wins a block", Games.game(true, lastInBlock).safe(), 0);
        CHECK.equal("the last piece, no block", Games.game(false, lastInBlock).safe(), 1 << 6);
    }

    /** Three pieces on a line that have this digit in common, and no other. */
    private static void safeBesideThree(int line, int mark, int digit) {
        int[] squares = Games.squaresOf(line);
        Quarterboard game = Games.game(true);
        int due = 0;
        for (int piece = 0; piece < 16; piece++) {
            due |= (piece >> mark & 1) != digit ? 1 << piece : 0;
        }
        int[] others = {0b000, 0b011, 0b101};
        for (int i = 0; i < 3; i++) {
            int low = others[i] & (1 << mark) - 1;
            int high = others[i] >> mark << (mark + 1);
            Games.play(game, high | digit << mark | low, squares[i]);
        }
        CHECK.equal("safe beside mark " + mark + " = " + digit + " on " + line, game.safe(), due);
    }

    private static void nothingIsToBeGiven() {
        CHECK.sentence("Promise 15", "Throws `IllegalStateException` if no piece is to be given");
        for (Position position : Position.values()) {
            Quarterboard game = position.make();
            CHECK.fails(position + ": safe()",
                position.phase != 0 ? IllegalStateException.class : null, game::safe);
        }
    }

    // ---- worth and best

    /** With 1, 2 .. placings: the worth, and the lowest piece or square that reaches it. */
    private static void row(boolean hasBlocks, int[] moves, int... due) {
        String at = (hasBlocks ? "with blocks " : "") + java.util.Arrays.toString(moves) + ": ";
        for (int placings = 1; placings <= due.length / 2; placings++) {
            int worth = due[2 * placings - 2];
            int best = due[2 * placings - 1];
            Quarterboard game = Games.game(hasBlocks, moves);
            CHECK.equal(at + "worth(" + placings + ")", game.worth(placings), worth);
            CHECK.equal(at + "best(" + placings + ")", game.best(placings), best);
            CHECK.equal(at + "worth(" + placings + "), again", game.worth(placings), worth);
        }
    }

    private static void toGive() {
        CHECK.sentence("Terms", "The worth of a position for a number of placings is found by looking"
            + " ahead up to that many placings, with best play of both: it is 1 if the player who is"
            + " to give or to place can then force to win within them, -1 if the other player can, and"
            + " 0 otherwise.");
        // The other player wins with the first placing.
        row(true, new int[] {2, 1, 9, 7, 15, 13, 7, 6, 11, 12, 4, 5, 12, 3, 14, 11}, -1, 0, -1, 0, -1, 0);
        row(false, new int[] {11, 11, 6, 3, 10, 6, 0, 14, 3, 4, 8, 7, 15, 5, 14, 2, 5, 0, 9, 15},
            -1, 1, -1, 1, -1, 1, -1, 1);
        // The player who is to give wins with the second.
        row(true, new int[] {7, 9, 1, 4, 6, 10, 10, 7, 15, 8, 0, 1}, 0, 8, 1, 8);
        row(false, new int[] {14, 9, 10, 13, 12, 1, 5, 0, 1, 2, 3, 15}, 0, 7, 1, 7);
        row(false, new int[] {11, 13, 1, 4, 12, 12, 7, 10, 8, 3, 4, 2, 9, 5, 0, 6}, 0, 15, 1, 15, 1, 15);
        // The other player wins with the third, of eight empty squares.
        row(true, new int[] {14, 14, 12, 3, 10, 4, 1, 7, 0, 13, 11, 12, 4, 2, 6, 11}, 0, 2, 0, 2, -1, 2);
        row(false, new int[] {11, 4, 12, 13, 13, 9, 15, 14, 2, 6, 5, 8, 9, 1, 7, 0}, 0, 6, 0, 6, -1, 0);
        // The player who is to give wins with the fourth, of six.
        row(true, new int[] {8, 4, 4, 0, 15, 2, 12, 6, 1, 10, 0, 3, 3, 7, 9, 5, 2, 14, 7, 12},
            0, 6, 0, 6, 0, 6, 1, 6);
        row(false, new int[] {12, 5, 0, 3, 2, 2, 13, 12, 14, 7, 9, 15, 3, 11, 6, 14, 15, 8, 7, 9},
            0, 4, 0, 4, 0, 8, 1, 8);
    }

    private static void toPlace() {
        CHECK.sentence("Terms", "The worth of a position for a number of placings is found by looking"
            + " ahead up to that many placings, with best play of both: it is 1 if the player who is"
            + " to give or to place can then force to win within them, -1 if the other player can, and"
            + " 0 otherwise.");
        // The player who is to place wins with the first placing.
        row(false, Games.given(Games.first(3, Games.WON), 4), 1, 3, 1, 3);
        // The other player wins with the second.
        row(true, new int[] {7, 9, 1, 4, 6, 10, 10, 7, 15, 8, 0, 1, 8}, 0, 0, -1, 0);
        row(false, new int[] {11, 13, 1, 4, 12, 12, 7, 10, 8, 3, 4, 2, 9, 5, 0, 6, 15},
            0, 0, -1, 0, -1, 0);
        // The player who is to place wins with the third, of eight empty squares.
        row(true, new int[] {14, 14, 12, 3, 10, 4, 1, 7, 0, 13, 11, 12, 4, 2, 6, 11, 15},
            0, 0, 0, 1, 1, 1);
        row(false, new int[] {11, 4, 12, 13, 13, 9, 15, 14, 2, 6, 5, 8, 9, 1, 7, 0, 6},
            0, 2, 0, 5, 1, 12);
        // The other player wins with the fourth, of six.
        row(true, new int[] {8, 4, 4, 0, 15, 2, 12, 6, 1, 10, 0, 3, 3, 7, 9, 5, 2, 14, 7, 12, 6},
            0, 1, 0, 1, 0, 1, -1, 1);
        row(false, new int[] {12, 9, 2, 13, 11, 11, 8, 15, 9, 4, 0, 2, 1, 3, 15, 14, 13, 6, 6, 0, 14},
            0, 1, 0, 1, 0, 1, -1, 1);
    }

    private static void morePlacingsThanSquares() {
        CHECK.sentence("Promise 16", "Returns -1, 0 or 1.");
        row(true, Games.drawn(15), 0, 7, 0, 7, 0, 7, 0, 7);
        row(true, Games.given(Games.drawn(15), 7), 0, 15, 0, 15, 0, 15, 0, 15);
        int[] wins = Games.first(15, Games.FULL_WON);
        row(false, wins, -1, 0, -1, 0, -1, 0, -1, 0);
        row(false, Games.given(wins, 0), 1, 9, 1, 9, 1, 9, 1, 9);
        int[] winsBlock = Games.first(15, Games.FULL_WON_BY_BLOCK);
        row(true, winsBlock, -1, 6, -1, 6, -1, 6, -1, 6);
        row(true, Games.given(winsBlock, 6), 1, 14, 1, 14, 1, 14, 1, 14);
        row(false, winsBlock, 0, 6, 0, 6, 0, 6, 0, 6);
        row(false, Games.given(winsBlock, 6), 0, 14, 0, 14, 0, 14, 0, 14);
        // Three squares are empty: a win with the third placing, none with a fourth.
        row(true, new int[] {12, 14, 1, 0, 9, 9, 6, 10, 0, 13, 4, 8, 2, 6, 3, 12, 15, 3, 11, 4, 5, 2,
            10, 1, 7, 5}, 0, 8, 0, 8, -1, 8, -1, 8);
        row(true, new int[] {12, 14, 1, 0, 9, 9, 6, 10, 0, 13, 4, 8, 2, 6, 3, 12, 15, 3, 11, 4, 5, 2,
            10, 1, 7, 5, 13}, 0, 7, 0, 7, 1, 7, 1, 7);
        row(false, new int[0], 0, 0, 0, 0);
        row(true, new int[] {0}, 0, 0, 0, 0);
        row(true, new int[] {15}, 0, 0, 0, 0);
    }

    private static void howManyPlacings() {
        CHECK.sentence("Promise 16", "`placings`: 1 to 4");
        Quarterboard game = Games.game(true, Games.drawn(10));
        for (int n = 1; n <= 4; n++) {
            int placings = n;
            CHECK.fails("worth(" + n + ")", null, () -> game.worth(placings));
        }
        CHECK.sentence("Promise 17", "`placings`: 1 to 4");
        for (int n = 1; n <= 4; n++) {
            int placings = n;
            CHECK.fails("best(" + n + ")", null, () -> game.best(placings));
        }
    }

    private static void placingsOutOfRange() {
        CHECK.sentence("Promise 16", "Throws `IllegalArgumentException` if placings is out of range");
        for (Position position : Position.values()) {
            Quarterboard game = position.make();
            for (int placings : NO_PLACINGS) {
                CHECK.noArgument(position + ": worth(" + placings + ")", () -> game.worth(placings));
            }
        }
        CHECK.sentence("Promise 17", "Throws `IllegalArgumentException` if placings is out of range");
        for (Position position : Position.values()) {
            Quarterboard game = position.make();
            for (int placings : NO_PLACINGS) {
                CHECK.noArgument(position + ": best(" + placings + ")", () -> game.best(placings));
            }
        }
    }

    interface LookingAhead {
        void call(Quarterboard game, int placings);
    }

    private static void worthIsNotNow() {
        CHECK.sentence("Promise 16", "Throws `IllegalStateException` if the game is over, or placings is"
            + " 3 and more than 8 squares are empty, or placings is 4 and more than 6 squares are"
            + " empty");
        notNow("worth", (game, placings) -> game.worth(placings));
    }

    private static void bestIsNotNow() {
        CHECK.sentence("Promise 17", "Throws `IllegalStateException` as for worth()");
        notNow("best", (game, placings) -> game.best(placings));
    }

    private static void notNow(String what, LookingAhead ahead) {
        for (int pieces = 0; pieces < 16; pieces++) {
            Quarterboard toGive = Games.game(true, Games.drawn(pieces));
            int piece = Games.DRAWN[2 * pieces];
            Quarterboard toPlace = Games.game(false, Games.given(Games.drawn(pieces), piece));
            for (int n = 1; n <= 4; n++) {
                int placings = n;
                boolean isNotNow = n == 3 && pieces < 8 || n == 4 && pieces < 10;
                Class<?> due = isNotNow ? IllegalStateException.class : null;
                String at = what + "(" + n + ") with " + (16 - pieces) + " empty";
                CHECK.fails(at + ", to give", due, () -> ahead.call(toGive, placings));
                CHECK.fails(at + ", to place", due, () -> ahead.call(toPlace, placings));
            }
        }
        for (Position position : Position.values()) {
            Quarterboard game = position.make();
            for (int n = 1; n <= 4; n++) {
                int placings = n;
                if (position.phase == 2) {
                    CHECK.notNow(position + ": " + what + "(" + n + ")",
                        () -> ahead.call(game, placings));
                }
            }
        }
    }

    private static void lowestThatReachesTheWorth() {
        CHECK.sentence("Promise 17", "Returns the lowest number of a piece or square after which the"
            + " worth for the player on turn, looked at within the same placings, is the worth of the"
            + " position.");
        // The lowest that is free or empty, where nothing can be won or lost.
        row(false, new int[] {0, 0}, 0, 1, 0, 1);
        row(false, new int[] {0, 0, 1}, 0, 1, 0, 1);
        row(false, new int[] {15, 0, 14, 1}, 0, 0, 0, 0);
        row(true, Games.given(Games.drawn(4), 0), 0, 4);
        // All lose: the lowest piece that is free.
        row(false, new int[] {0, 0, 1, 1, 2, 2, 15, 4, 14, 5, 13, 6}, -1, 3, -1, 3);
        // The first safe piece; the lowest of two winning squares.
        row(false, Games.first(3, Games.WON), 0, 12, 0, 12);
        row(false, new int[] {0, 0, 1, 1, 2, 2, 15, 12, 14, 13, 13, 14, 11}, 1, 3, 1, 3);
        // A square that wins later has a lower number than those that win at once.
        row(false, new int[] {11, 1, 0, 9, 13, 12, 3, 14, 10, 7, 15, 0, 8, 3, 6, 10, 1},
            1, 6, 1, 6, 1, 4);
        row(true, new int[] {11, 11, 3, 13, 5, 14, 6, 0, 2, 2, 12, 15, 0, 4, 14, 5, 4, 12, 1, 3, 13},
            1, 10, 1, 10, 1, 1, 1, 1);
        // After a placing there is one placing less.
        row(false, new int[] {13, 6, 15, 13, 3, 8, 7, 7, 1, 9, 9, 5, 2, 12, 8, 3, 10, 1, 4, 15, 14},
            0, 0, 0, 4, 0, 4, 0, 10);
        row(true, new int[] {12, 5, 9, 8, 14, 2, 0, 10, 7, 9, 10, 14, 5, 4, 13, 15, 15},
            0, 0, 0, 1, 1, 3);
        // After a giving there are as many as before.
        row(false, new int[] {12, 5, 0, 3, 2, 2, 13, 12, 14, 7, 9, 15, 3, 11, 6, 14, 15, 8, 7, 9},
            0, 4, 0, 4, 0, 8, 1, 8);
    }

    private static void onlyTheFirstOrTheLast() {
        CHECK.sentence("Promise 17", "Returns the lowest number of a piece or square after which the"
            + " worth for the player on turn, looked at within the same placings, is the worth of the"
            + " position.");
        // Only the piece 0, then only the piece 15: the only one that does not lose.
        row(true, new int[] {10, 3, 2, 11, 13, 2, 14, 10, 9, 5, 8, 12, 15, 9, 4, 0}, 0, 0, 0, 0, 0, 0);
        row(true, new int[] {8, 7, 14, 0, 9, 5, 0, 2, 13, 8, 11, 3, 5, 6, 3, 12, 6, 4, 10, 9},
            0, 2, 0, 2, 0, 15, 0, 15);
        // The only one that wins with the second placing.
        row(true, new int[] {1, 5, 6, 6, 10, 8, 9, 3, 13, 4, 7, 7, 15, 1, 8, 13, 14, 11},
            0, 0, 1, 0, 1, 0);
        row(true, new int[] {12, 12, 1, 7, 13, 9, 9, 0, 3, 5, 14, 11, 5, 2, 6, 15, 2, 4},
            0, 15, 1, 15, 1, 15);
        // The only one that wins with the fourth.
        row(false, new int[] {13, 11, 12, 13, 8, 12, 9, 8, 6, 9, 2, 5, 11, 14, 3, 7, 7, 2, 5, 1},
            0, 0, 0, 0, 0, 0, 1, 0);
        row(false, new int[] {7, 3, 3, 6, 1, 15, 5, 7, 8, 9, 10, 11, 6, 5, 14, 12, 13, 0, 12, 14, 11, 13},
            0, 9, 0, 9, 0, 9, 1, 15);
        // Only the square 0, then only the square 15: the only one that does not lose.
        row(false, new int[] {8, 5, 3, 12, 12, 2, 14, 6, 5, 7, 6, 8, 2, 4, 13, 1, 9}, 0, 0, 0, 0, 0, 0);
        row(true, new int[] {12, 12, 6, 7, 9, 0, 15, 4, 2, 3, 5, 13, 7, 8, 0, 11, 11},
            0, 1, 0, 15, 0, 15);
        row(true, new int[] {12, 12, 14, 1, 15, 14, 8, 5, 5, 2, 3, 15, 13, 6, 2, 3, 0, 10, 6, 9, 7},
            0, 0, 0, 0, 0, 0, 0, 0);
        row(true, new int[] {5, 3, 6, 1, 12, 2, 2, 14, 10, 11, 11, 6, 1, 4, 9, 0, 8, 9, 15, 10, 0, 7, 4},
            0, 5, 0, 15, 0, 15, 0, 15);
        // The only one that wins with the third.
        row(false, new int[] {8, 5, 9, 2, 15, 3, 2, 14, 13, 11, 6, 9, 0, 10, 14, 1, 5}, 0, 0, 0, 0, 1, 0);
        row(true, new int[] {10, 14, 14, 9, 3, 5, 4, 4, 2, 12, 7, 13, 9, 7, 8, 6, 1}, 0, 0, 0, 0, 1, 0);
        row(true, new int[] {8, 1, 4, 14, 14, 11, 10, 4, 5, 12, 9, 3, 1, 8, 13, 7, 0}, 0, 0, 0, 0, 1, 15);
        row(false, new int[] {2, 11, 9, 13, 11, 5, 1, 0, 4, 1, 10, 3, 8, 8, 15, 9, 6, 12, 5, 4, 12, 10, 0},
            0, 2, 0, 2, 1, 15, 1, 15);
    }

    /** Follows each piece or square, in many games, and asks what the position is worth then. */
    private static void theWorthIsReached() {
        CHECK.sentence("Promise 17", "Returns a piece, to be given, or a square, to be placed on, with"
            + " which the worth of the position is reached.");
        for (int seed = 1; seed <= 60; seed++) {
            java.util.Random random = new java.util.Random(seed);
            boolean hasBlocks = seed % 2 == 0;
            int[] moves = new int[0];
            Quarterboard game = Games.game(hasBlocks);
            while (game.phase() != 2) {
                for (int placings = 1; placings <= 4; placings++) {
                    if (placings <= 2 || game.placed() >= (placings == 3 ? 8 : 10)) {
                        reached(hasBlocks, moves, placings);
                    }
                }
                moves = Games.given(moves, random.nextInt(3) == 0 ? game.best(2) : any(game, random));
                game = Games.game(hasBlocks, moves);
            }
        }
    }

    /** Any piece that can be given, or any square that can be placed on. */
    private static int any(Quarterboard game, java.util.Random random) {
        int number = random.nextInt(16);
        while (isChosenBefore(game, number)) {
            number = (number + 1) % 16;
        }
        return number;
    }

    private static boolean isChosenBefore(Quarterboard game, int number) {
        if (game.phase() == 1) {
            return game.pieceAt(number) >= 0;
        }
        for (int square = 0; square < 16; square++) {
            if (game.pieceAt(square) == number) {
                return true;
            }
        }
        return false;
    }

    private static void reached(boolean hasBlocks, int[] moves, int placings) {
        Quarterboard game = Games.game(hasBlocks, moves);
        int worth = game.worth(placings);
        int most = -2;
        int lowest = -1;
        for (int number = 0; number < 16; number++) {
            if (!isChosenBefore(game, number)) {
                int after = worthAfter(Games.game(hasBlocks, moves), number, placings);
                if (after > most) {
                    most = after;
                    lowest = number;
                }
            }
        }
        String at = java.util.Arrays.toString(moves) + " within " + placings;
        CHECK.equal("worth after " + at, worth, most);
        CHECK.equal("best after " + at, game.best(placings), lowest);
    }

    private static int worthAfter(Quarterboard game, int number, int placings) {
        if (game.phase() == 0) {
            game.give(number);
            return -game.worth(placings);
        }
        int won = game.place(number);
        return won > 0 ? 1 : game.phase() == 2 || placings == 1 ? 0 : game.worth(placings - 1);
    }

    public static void main(String[] args) {
        winsWherePlacingItWins();
        whereAPieceWins();
        whichPiecesCanBeAskedFor();
        noSuchPieceThatWins();
        noPieceThatWinsNow();
        safeWhereNothingWins();
        whatIsSafe();
        nothingIsToBeGiven();
        toGive();
        toPlace();
        morePlacingsThanSquares();
        howManyPlacings();
        placingsOutOfRange();
        worthIsNotNow();
        bestIsNotNow();
        lowestThatReachesTheWorth();
        onlyTheFirstOrTheLast();
        theWorthIsReached();
        CHECK.end();
    }
}
