/** Games that several tests start from. */
final class Games {
    private Games() {
    }

    /** Gives and places pairs of a piece and a square; a piece without a square stays in the hand. */
    static Quarterboard play(Quarterboard game, int... moves) {
        for (int i = 0; i < moves.length; i++) {
            if (i % 2 == 0) {
                game.give(moves[i]);
            } else {
                game.place(moves[i]);
            }
        }
        return game;
    }

    static Quarterboard game(boolean hasBlocks, int... moves) {
        Quarterboard game = new Quarterboard();
        game.begin(hasBlocks);
        return play(game, moves);
    }

    /** Player 0 wins the row 0 by the digit 0 for mark 3. */
    static final int[] WON = {0, 0, 1, 1, 2, 2, 4, 3};

    /** Player 1 wins it, after a piece on another line. */
    static final int[] WON_BY_ONE = {15, 15, 0, 0, 1, 1, 2, 2, 4, 3};

    /** The block of the squares 0, 1, 4 and 5: won where there are blocks. */
    static final int[] BLOCK = {0, 0, 1, 1, 2, 4, 4, 5};

    /** Without blocks. */
    static final int[] WON_WITH_EIGHT_EMPTY = {
        2, 7, 6, 5, 11, 2, 13, 14, 7, 6, 8, 9, 12, 1, 0, 13
    };

    /** With blocks. */
    static final int[] WON_WITH_SIX_EMPTY = {
        7, 9, 12, 6, 10, 2, 11, 1, 3, 8, 6, 7, 1, 14, 5, 0, 8, 12, 0, 3
    };

    /** Without blocks, by player 1. */
    static final int[] WON_WITH_ONE_EMPTY = {
        13, 7, 11, 9, 1, 14, 3, 6, 10, 3, 4, 10, 12, 12, 9, 4,
        14, 8, 2, 0, 8, 2, 5, 11, 15, 1, 6, 5, 7, 15
    };

    /** All sixteen pieces, square by square, so that no line is won, with blocks or without. */
    static final int[] DRAWN = {
        13, 0, 14, 1, 3, 2, 12, 3,
        4, 4, 9, 5, 5, 6, 10, 7,
        0, 8, 15, 9, 2, 10, 1, 11,
        11, 12, 6, 13, 8, 14, 7, 15
    };

    /** The sixteenth piece wins one line, with blocks or without. */
    static final int[] FULL_WON = {
        6, 2, 12, 5, 7, 4, 4, 0, 2, 3, 5, 11, 11, 1, 10, 10,
        8, 8, 14, 14, 3, 12, 1, 7, 9, 6, 13, 15, 15, 13, 0, 9
    };

    /** The sixteenth piece wins a block; where there are none, nobody wins. */
    static final int[] FULL_WON_BY_BLOCK = {
        12, 5, 13, 11, 7, 9, 15, 0, 10, 12, 5, 13, 11, 6, 1, 3,
        0, 1, 14, 7, 8, 15, 9, 2, 2, 8, 4, 4, 3, 10, 6, 14
    };

    /** Before the piece 0 on the square 5, which wins all seven lines that the square is on. */
    static final int[] BEFORE_SEVEN_LINES = {
        9, 0, 4, 1, 5, 2, 1, 4, 6, 6, 7, 7, 13, 8, 8, 9, 10, 10, 14, 13, 3, 15
    };

    /** The first of the moves: so many pieces placed. */
    static int[] first(int pieces, int[] moves) {
        return java.util.Arrays.copyOf(moves, 2 * pieces);
    }

    /** The first of DRAWN's moves. */
    static int[] drawn(int pieces) {
        return first(pieces, DRAWN);
    }

    /** The same moves, and one piece more given. */
    static int[] given(int[] moves, int piece) {
        int[] more = java.util.Arrays.copyOf(moves, moves.length + 1);
        more[moves.length] = piece;
        return more;
    }

    static int[] squaresOf(int line) {
        int[][] squares = {
            {0, 1, 2, 3}, {4, 5, 6, 7}, {8, 9, 10, 11}, {12, 13, 14, 15},
            {0, 4, 8, 12}, {1, 5, 9, 13}, {2, 6, 10, 14}, {3, 7, 11, 15},
            {0, 5, 10, 15}, {3, 6, 9, 12},
            {0, 1, 4, 5}, {1, 2, 5, 6}, {2, 3, 6, 7},
            {4, 5, 8, 9}, {5, 6, 9, 10}, {6, 7, 10, 11},
            {8, 9, 12, 13}, {9, 10, 13, 14}, {10, 11, 14, 15}
        };
        return squares[line];
    }
}
