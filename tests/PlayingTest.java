/** Promises 1 to 10: what is given and placed, who is on turn, and who has won. */
public final class PlayingTest {
    private static final Check CHECK = new Check();

    private static void promise1NewObject() {
        Quarterboard game = new Quarterboard();
        CHECK.equal("new: phase", game.phase(), 0);
        CHECK.equal("new: onTurn", game.onTurn(), 0);
        CHECK.equal("new: hand", game.hand(), -1);
        CHECK.equal("new: placed", game.placed(), 0);
        CHECK.equal("new: winner", game.winner(), -1);
        CHECK.equal("new: lines", game.lines(), 10);
        CHECK.equal("new: safe", game.safe(), 0xFFFF);
        for (int square = 0; square < 16; square++) {
            CHECK.equal("new: pieceAt " + square, game.pieceAt(square), -1);
        }
        CHECK.notNow("new: isAlike", game::isAlike);
    }

    private static void promise2Begin() {
        Quarterboard game = new Quarterboard();
        CHECK.equal("begin of a new object", game.begin(true), 0);
        CHECK.equal("begin: blocks", game.lines(), 19);
        Games.play(game, 3, 7, 4, 8);
        game.give(9);
        CHECK.equal("begin does not count the hand", game.begin(false), 2);
        CHECK.equal("begin: no blocks", game.lines(), 10);
        CHECK.equal("begin: phase", game.phase(), 0);
        CHECK.equal("begin: player 0 gives, though 1 was on turn", game.onTurn(), 0);
        CHECK.equal("begin: hand", game.hand(), -1);
        CHECK.equal("begin: placed", game.placed(), 0);
        CHECK.equal("begin: square", game.pieceAt(7), -1);
        CHECK.equal("begin: pieces are free again", game.safe(), 0xFFFF);
        game.give(9);
        CHECK.equal("begin with a piece in the hand", game.begin(false), 0);
        CHECK.equal("begin: player 0 gives", game.onTurn(), 0);
        Games.play(game, 0, 0, 1, 1, 2, 2, 4, 3);
        CHECK.equal("won", game.phase(), 2);
        CHECK.equal("begin after a win", game.begin(true), 4);
        CHECK.equal("begin: nobody has won", game.winner(), -1);
        CHECK.equal("begin: no line", game.onLine(0), 0);
        Games.play(game, Games.DRAWN);
        CHECK.equal("begin after a full board", game.begin(false), 16);
        game.keep();
        Games.play(game, 5, 5);
        game.keep();
        game.begin(true);
        CHECK.equal("begin keeps the kept: empty is not alike", game.isAlike(), false);
        Games.play(game, 3, 6);
        CHECK.equal("begin keeps the kept: alike", game.isAlike(), true);
    }

    private static void promise3Give() {
        Quarterboard game = new Quarterboard();
        CHECK.noPlace("give(-1)", () -> game.give(-1));
        CHECK.noPlace("give(16)", () -> game.give(16));
        CHECK.noPlace("give(least)", () -> game.give(Integer.MIN_VALUE));
        CHECK.noPlace("give(most)", () -> game.give(Integer.MAX_VALUE));
        CHECK.equal("still to give", game.phase(), 0);
        CHECK.equal("first give", game.give(15), 1);
        CHECK.notNow("give with a piece in the hand", () -> game.give(3));
        CHECK.notNow("give of the piece in the hand", () -> game.give(15));
        CHECK.noPlace("no such piece goes first", () -> game.give(16));
        CHECK.equal("the hand stays", game.hand(), 15);
        CHECK.equal("the player stays", game.onTurn(), 1);
        game.place(9);
        CHECK.notNow("give of a piece on the board", () -> game.give(15));
        CHECK.equal("second give", game.give(0), 0);
        game.place(0);
        CHECK.equal("third give", game.give(1), 1);
        Quarterboard won = Games.game(false, 0, 0, 1, 1, 2, 2, 4, 3);
        CHECK.notNow("give when it is over", () -> won.give(9));
        CHECK.noPlace("no such piece when it is over", () -> won.give(-1));
    }

    private static void promise4Place() {
        Quarterboard game = new Quarterboard();
        CHECK.notNow("place without a piece", () -> game.place(0));
        CHECK.noPlace("place(16) without a piece", () -> game.place(16));
        game.give(6);
        CHECK.noPlace("place(-1)", () -> game.place(-1));
        CHECK.noPlace("place(16)", () -> game.place(16));
        CHECK.noPlace("place(least)", () -> game.place(Integer.MIN_VALUE));
        CHECK.equal("the hand stays", game.hand(), 6);
        CHECK.equal("place", game.place(15), 0);
        CHECK.notNow("place twice", () -> game.place(14));
        game.give(7);
        CHECK.notNow("place on a piece", () -> game.place(15));
        CHECK.equal("the square stays", game.pieceAt(15), 6);
        CHECK.equal("nothing is placed", game.placed(), 1);

        for (int line = 0; line < 19; line++) {
            winOnLine(line);
        }
        // Mark 3 in the row, mark 2 in the column, mark 1 on the diagonal, mark 0 in the block.
        int[] meeting = {8, 1, 9, 2, 10, 3, 4, 4, 5, 8, 6, 12, 2, 5, 3, 10, 7, 15};
        Quarterboard three = Games.game(false, meeting);
        three.give(14);
        CHECK.equal("three lines", three.place(0), 3);
        Quarterboard four = Games.game(true, meeting);
        four.give(14);
        CHECK.equal("three lines and a block", four.place(0), 4);
        Quarterboard two = Games.game(false, 1, 1, 2, 2, 4, 3, 3, 4, 5, 8, 6, 12);
        two.give(7);
        CHECK.equal("a row and a column", two.place(0), 2);
        CHECK.notNow("place when it is over", () -> two.place(15));
        CHECK.noPlace("no such square when it is over", () -> two.place(16));
        Quarterboard all = Games.game(true, 1, 1, 2, 2, 12, 3, 3, 4, 4, 8, 11, 12, 6, 10, 15, 15);
        all.give(7);
        all.place(5);
        all.give(0);
        CHECK.equal("the block alone", all.place(0), 1);
        Quarterboard drawn = Games.game(true, Games.drawn(15));
        drawn.give(7);
        CHECK.equal("the last square without a line", drawn.place(15), 0);
    }

    /** Four pieces with a 1 for mark 2 and no other digit in common, on each line alone. */
    private static void winOnLine(int line) {
        int[] pieces = {4, 5, 6, 12};
        int[] squares = Games.squaresOf(line);
        Quarterboard game = Games.game(true);
        for (int i = 0; i < 4; i++) {
            game.give(pieces[i]);
            CHECK.equal("line " + line + ", piece " + i, game.place(squares[i]), i == 3 ? 1 : 0);
        }
        CHECK.equal("line " + line + " is won", game.phase(), 2);
        if (line >= 10) {
            Quarterboard without = Games.game(false);
            for (int i = 0; i < 4; i++) {
                without.give(pieces[i]);
                CHECK.equal("no block " + line, without.place(squares[i]), 0);
            }
            CHECK.equal("no block " + line + ": goes on", without.phase(), 0);
        }
        Quarterboard nothing = Games.game(true);
        int[] mixed = {0, 15, 5, 10};
        for (int i = 0; i < 4; i++) {
            nothing.give(mixed[i]);
            CHECK.equal("mixed line " + line, nothing.place(squares[i]), 0);
        }
        CHECK.equal("mixed line " + line + ": goes on", nothing.phase(), 0);
    }

    private static void promise5Phase() {
        Quarterboard game = new Quarterboard();
        CHECK.equal("phase at first", game.phase(), 0);
        game.give(0);
        CHECK.equal("phase after give", game.phase(), 1);
        game.place(0);
        CHECK.equal("phase after place", game.phase(), 0);
        Games.play(game, 1, 1, 2, 2);
        game.give(4);
        CHECK.equal("phase before the win", game.phase(), 1);
        game.place(3);
        CHECK.equal("phase after the win", game.phase(), 2);
        Quarterboard drawn = Games.game(true, Games.drawn(15));
        CHECK.equal("phase before the last piece", drawn.phase(), 0);
        Games.play(drawn, 7, 15);
        CHECK.equal("phase of a full board", drawn.phase(), 2);
    }

    private static void promise6OnTurn() {
        Quarterboard game = new Quarterboard();
        CHECK.equal("onTurn at first", game.onTurn(), 0);
        game.give(0);
        CHECK.equal("onTurn to place", game.onTurn(), 1);
        game.place(0);
        CHECK.equal("the one who placed gives", game.onTurn(), 1);
        game.give(1);
        CHECK.equal("onTurn to place second", game.onTurn(), 0);
        game.place(1);
        CHECK.equal("onTurn to give third", game.onTurn(), 0);
        Games.play(game, 2, 2, 4, 3);
        CHECK.equal("onTurn after a win: who placed last", game.onTurn(), 0);
        CHECK.equal("onTurn of a full board", Games.game(false, Games.DRAWN).onTurn(), 0);
        Quarterboard odd = Games.game(false, 15, 15, 0, 0, 1, 1, 2, 2, 4, 3);
        CHECK.equal("onTurn after a win of player 1", odd.onTurn(), 1);
    }

    private static void promise7Hand() {
        Quarterboard game = new Quarterboard();
        CHECK.equal("hand at first", game.hand(), -1);
        game.give(0);
        CHECK.equal("piece 0 in the hand", game.hand(), 0);
        game.place(5);
        CHECK.equal("hand after place", game.hand(), -1);
        game.give(15);
        CHECK.equal("piece 15 in the hand", game.hand(), 15);
        CHECK.equal("hand after a win", Games.game(false, 0, 0, 1, 1, 2, 2, 4, 3).hand(), -1);
        CHECK.equal("hand of a full board", Games.game(false, Games.DRAWN).hand(), -1);
    }

    private static void promise8PieceAt() {
        Quarterboard game = Games.game(true, Games.drawn(15));
        CHECK.equal("empty square", game.pieceAt(15), -1);
        Games.play(game, 7, 15);
        for (int i = 0; i < 16; i++) {
            CHECK.equal("pieceAt " + i, game.pieceAt(Games.DRAWN[2 * i + 1]), Games.DRAWN[2 * i]);
        }
        CHECK.noPlace("pieceAt(-1)", () -> game.pieceAt(-1));
        CHECK.noPlace("pieceAt(16)", () -> game.pieceAt(16));
        CHECK.noPlace("pieceAt(most)", () -> game.pieceAt(Integer.MAX_VALUE));
    }

    private static void promise9Placed() {
        Quarterboard game = new Quarterboard();
        for (int i = 0; i < 16; i++) {
            CHECK.equal("placed", game.placed(), i);
            game.give(Games.DRAWN[2 * i]);
            CHECK.equal("placed, one in the hand", game.placed(), i);
            game.place(Games.DRAWN[2 * i + 1]);
        }
        CHECK.equal("placed all", game.placed(), 16);
    }

    private static void promise10Winner() {
        Quarterboard game = new Quarterboard();
        CHECK.equal("winner at first", game.winner(), -1);
        game.give(0);
        CHECK.equal("winner with a piece in the hand", game.winner(), -1);
        game.place(0);
        Games.play(game, 1, 1, 2, 2);
        CHECK.equal("no winner yet", game.winner(), -1);
        Games.play(game, 4, 3);
        CHECK.equal("player 0 has won", game.winner(), 0);
        Quarterboard odd = Games.game(false, 15, 15, 0, 0, 1, 1, 2, 2, 4, 3);
        CHECK.equal("player 1 has won", odd.winner(), 1);
        Quarterboard drawn = Games.game(true, Games.drawn(15));
        CHECK.equal("no winner before the last piece", drawn.winner(), -1);
        Games.play(drawn, 7, 15);
        CHECK.equal("nobody has won", drawn.winner(), 2);
        Quarterboard full = Games.game(true, Games.FULL_WON);
        CHECK.equal("won on a full board: placed", full.placed(), 16);
        CHECK.equal("won on a full board: phase", full.phase(), 2);
        CHECK.equal("won on a full board: winner", full.winner(), 0);
    }

    public static void main(String[] args) {
        promise1NewObject();
        promise2Begin();
        promise3Give();
        promise4Place();
        promise5Phase();
        promise6OnTurn();
        promise7Hand();
        promise8PieceAt();
        promise9Placed();
        promise10Winner();
        CHECK.end();
    }
}
