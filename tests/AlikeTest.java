/** Promises 18 to 20: keeping a board, and which boards are alike. */
public final class AlikeTest {
    private static final Check CHECK = new Check();

    private static void promise18Keep() {
        Quarterboard game = new Quarterboard();
        CHECK.equal("keep of an empty board", game.keep(), 0);
        CHECK.equal("empty is alike empty", game.isAlike(), true);
        game.give(4);
        CHECK.equal("keep does not count the hand", game.keep(), 0);
        game.place(0);
        CHECK.equal("one piece is not alike none", game.isAlike(), false);
        CHECK.equal("keep of one piece", game.keep(), 1);
        CHECK.equal("kept in place of the one before", game.isAlike(), true);
        Games.play(game, 5, 1);
        CHECK.equal("the kept board does not grow", game.isAlike(), false);
        CHECK.equal("keep changes nothing else", game.pieceAt(1), 5);
        game.begin(false);
        Games.play(game, Games.DRAWN);
        CHECK.equal("keep of a full board", game.keep(), 16);
        CHECK.equal("keep when it is over: alike", game.isAlike(), true);
    }

    private static void promise19IsAlike() {
        Quarterboard none = new Quarterboard();
        CHECK.notNow("isAlike without a kept board", none::isAlike);
        none.begin(true);
        CHECK.notNow("isAlike after begin", none::isAlike);

        int[] base = {0, 0, 3, 1, 5, 6};
        alike("the same", base, base, true);
        alike("in another order", base, new int[] {5, 6, 0, 0, 3, 1}, true);
        int[][] turns = {{3, 7, 10}, {15, 14, 9}, {12, 8, 5}, {3, 2, 5}, {12, 13, 10}, {0, 4, 9}, {15, 11, 6}};
        for (int[] t : turns) {
            alike("turned", base, new int[] {0, t[0], 3, t[1], 5, t[2]}, true);
        }
        alike("digits exchanged", base, new int[] {9, 0, 10, 1, 12, 6}, true);
        alike("marks renamed", base, new int[] {0, 0, 12, 1, 10, 6}, true);
        alike("all at once", base, new int[] {15, 3, 3, 7, 5, 10}, true);
        alike("a square beside", base, new int[] {0, 0, 3, 1, 5, 7}, false);
        alike("one mark more in common", base, new int[] {0, 0, 3, 1, 1, 6}, false);
        alike("no mark in common", base, new int[] {0, 0, 3, 1, 12, 6}, false);
        alike("pieces exchanged that are alike", base, new int[] {0, 0, 5, 1, 3, 6}, true);
        alike("fewer pieces", base, new int[] {0, 0, 3, 1}, false);
        alike("more pieces", base, new int[] {0, 0, 3, 1, 5, 6, 9, 9}, false);
        alike("a shift is no turn", new int[] {0, 0, 1, 1}, new int[] {0, 1, 1, 2}, false);
        alike("no pieces", new int[0], new int[0], true);

        Quarterboard game = Games.game(true, base);
        game.keep();
        game.begin(false);
        Games.play(game, base);
        game.give(9);
        CHECK.equal("neither the hand nor the blocks matter", game.isAlike(), true);
    }

    private static void alike(String what, int[] kept, int[] now, boolean due) {
        Quarterboard game = Games.game(false, kept);
        game.keep();
        game.begin(false);
        Games.play(game, now);
        CHECK.equal("isAlike: " + what, game.isAlike(), due);
        CHECK.equal("isAlike again: " + what, game.isAlike(), due);
        game.keep();
        game.begin(false);
        Games.play(game, kept);
        CHECK.equal("isAlike, the other way: " + what, game.isAlike(), due);
    }

    private static void promise20Symmetries() {
        symmetries("no piece", 8 * 384);
        symmetries("a corner", 2 * 24, 9, 0);
        symmetries("an edge", 24, 9, 1);
        symmetries("a centre", 2 * 24, 6, 5);
        symmetries("two corners of a side, one mark apart", 2 * 6, 0, 0, 1, 3);
        symmetries("two corners of a side, two marks apart", 2 * 4, 0, 0, 3, 3);
        symmetries("two corners of a side, all marks apart", 2 * 24, 0, 0, 15, 3);
        symmetries("two opposite corners, three marks apart", 4 * 6, 0, 0, 7, 15);
        symmetries("two squares without a reflection", 6, 0, 0, 8, 6);
        symmetries("four corners", 8 * 4, 0, 0, 3, 3, 15, 15, 12, 12);
        symmetries("two opposite corners, one mark apart", 4 * 6, 0, 0, 1, 15);
        Quarterboard full = Games.game(true, Games.DRAWN);
        CHECK.equal("a full board when it is over", full.symmetries(), 1);
        Quarterboard held = Games.game(true, 9, 0);
        held.give(3);
        CHECK.equal("the hand does not matter", held.symmetries(), 48);
    }

    private static void symmetries(String what, int due, int... moves) {
        CHECK.equal("symmetries: " + what, Games.game(false, moves).symmetries(), due);
        CHECK.equal("symmetries with blocks: " + what, Games.game(true, moves).symmetries(), due);
    }

    public static void main(String[] args) {
        promise18Keep();
        promise19IsAlike();
        promise20Symmetries();
        CHECK.end();
    }
}
