/** One position of every kind that the document tells apart, with what is known of it. */
enum Position {
    NEW(0, -1, false, null),
    BEGUN_WITH_BLOCKS(0, -1, true, null),
    FIRST_PIECE_IN_HAND(1, -1, false, null, 0),
    EMPTY_BOARD_KEPT(1, -1, true, new int[0], 15),
    SOME_PLACED(0, -1, false, new int[] {3, 6, 9, 9}, 5, 1, 10, 14),
    THREE_ON_A_LINE(0, -1, true, new int[] {5, 5}, Games.first(3, Games.WON)),
    ABOUT_TO_WIN(1, -1, false, null, Games.given(Games.first(3, Games.WON), 4)),
    NINE_EMPTY(1, -1, true, null, Games.given(Games.drawn(7), 10)),
    EIGHT_EMPTY(0, -1, true, Games.WON, Games.drawn(8)),
    EIGHT_EMPTY_IN_HAND(1, -1, false, null, Games.given(Games.drawn(8), 0)),
    SEVEN_EMPTY(0, -1, false, null, Games.drawn(9)),
    SEVEN_EMPTY_IN_HAND(1, -1, true, null, Games.given(Games.drawn(9), 2)),
    SIX_EMPTY(0, -1, true, null, Games.drawn(10)),
    SIX_EMPTY_IN_HAND(1, -1, false, new int[] {1, 1}, Games.given(Games.drawn(10), 6)),
    ONE_EMPTY(0, -1, false, Games.DRAWN, Games.drawn(15)),
    ONE_EMPTY_IN_HAND(1, -1, true, null, Games.given(Games.drawn(15), 7)),
    WON(2, 0, false, null, Games.WON),
    WON_BY_ONE(2, 1, true, Games.WON_BY_ONE, Games.WON_BY_ONE),
    WON_BY_BLOCK(2, 0, true, null, Games.BLOCK),
    WON_WITH_EIGHT_EMPTY(2, 0, false, null, Games.WON_WITH_EIGHT_EMPTY),
    WON_WITH_SIX_EMPTY(2, 0, true, null, Games.WON_WITH_SIX_EMPTY),
    WON_WITH_ONE_EMPTY(2, 1, false, new int[] {0, 5}, Games.WON_WITH_ONE_EMPTY),
    NOBODY_HAS_WON(2, 2, true, Games.WON, Games.DRAWN),
    FULL_WON(2, 0, false, null, Games.FULL_WON),
    FULL_WON_BY_BLOCK(2, 0, true, Games.DRAWN, Games.FULL_WON_BY_BLOCK),
    NOBODY_WITHOUT_BLOCKS(2, 2, false, null, Games.FULL_WON_BY_BLOCK);

    final int phase;
    final int winner;
    final boolean hasBlocks;
    final int[] kept;
    final int[] moves;

    Position(int phase, int winner, boolean hasBlocks, int[] kept, int... moves) {
        this.phase = phase;
        this.winner = winner;
        this.hasBlocks = hasBlocks;
        this.kept = kept;
        this.moves = moves;
    }

    Quarterboard make() {
        Quarterboard game = new Quarterboard();
        if (kept != null) {
            Games.play(game, kept);
            game.keep();
        }
        if (kept != null || hasBlocks) {
            game.begin(hasBlocks);
        }
        return Games.play(game, moves);
    }

    /** How many calls make() makes, 66 at most. */
    int calls() {
        int toKeep = kept != null ? kept.length + 1 : 0;
        int toBegin = kept != null || hasBlocks ? 1 : 0;
        return toKeep + toBegin + moves.length;
    }

    int placed() {
        return moves.length / 2;
    }

    int hand() {
        return moves.length % 2 == 1 ? moves[moves.length - 1] : -1;
    }

    /** With each giving the other player is on turn, and nothing else changes that. */
    int onTurn() {
        return (moves.length + 1) / 2 % 2;
    }

    int lines() {
        return hasBlocks ? 19 : 10;
    }

    int pieceAt(int square) {
        for (int i = 0; i + 1 < moves.length; i += 2) {
            if (moves[i + 1] == square) {
                return moves[i];
            }
        }
        return -1;
    }

    boolean isOnBoard(int piece) {
        for (int i = 0; i + 1 < moves.length; i += 2) {
            if (moves[i] == piece) {
                return true;
            }
        }
        return false;
    }
}
