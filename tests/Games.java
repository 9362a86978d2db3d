/** Positions that several tests start from. */
final class Games {
    private Games() {
    }

    /** Gives and places pairs of a piece and a square. */
    static Quarterboard play(Quarterboard game, int... moves) {
        for (int i = 0; i + 1 < moves.length; i += 2) {
            game.give(moves[i]);
            game.place(moves[i + 1]);
        }
        return game;
    }

    static Quarterboard game(boolean hasBlocks, int... moves) {
        Quarterboard game = new Quarterboard();
        game.begin(hasBlocks);
        return play(game, moves);
    }

    /** All sixteen pieces, square by square, so that no line is won, with blocks or without. */
    static final int[] DRAWN = {
        13, 0, 14, 1, 3, 2, 12, 3,
        4, 4, 9, 5, 5, 6, 10, 7,
        0, 8, 15, 9, 2, 10, 1, 11,
        11, 12, 6, 13, 8, 14, 7, 15
    };

    /** The first of DRAWN's moves. */
    static int[] drawn(int pieces) {
        return java.util.Arrays.copyOf(DRAWN, 2 * pieces);
    }
}
