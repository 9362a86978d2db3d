/** Promises 1 to 10, sentence by sentence, at the edges that each names. */
public final class PlayingEdgesTest {
    private static final Check CHECK = new Check();

    private static final int[] OUTSIDE = {
        Integer.MIN_VALUE, Integer.MIN_VALUE + 16, -32, -17, -16, -1, 16, 17, 31, 32, 48, 64, 256,
        65536, Integer.MAX_VALUE
    };

    private static void aNewObject() {
        CHECK.sentence("Promise 1", "Creates a game without blocks, in which nothing has been given,"
            + " and keeps no board.");
        Quarterboard game = new Quarterboard();
        CHECK.equal("lines", game.lines(), 10);
        CHECK.noPlace("onLine(10)", () -> game.onLine(10));
        CHECK.equal("phase", game.phase(), 0);
        CHECK.equal("onTurn", game.onTurn(), 0);
        CHECK.equal("hand", game.hand(), -1);
        CHECK.equal("placed", game.placed(), 0);
        CHECK.equal("winner", game.winner(), -1);
        CHECK.equal("safe", game.safe(), 0xFFFF);
        for (int n = 0; n < 16; n++) {
            CHECK.equal("pieceAt " + n, game.pieceAt(n), -1);
            CHECK.equal("winning " + n, game.winning(n), 0);
        }
        for (int line = 0; line < 10; line++) {
            CHECK.equal("onLine " + line, game.onLine(line), 0);
            CHECK.equal("shared " + line, game.shared(line), 255);
        }
        CHECK.notNow("isAlike", game::isAlike);
        CHECK.equal("symmetries", game.symmetries(), 3072);
        CHECK.equal("a block is not won", Games.play(game, Games.BLOCK).phase(), 0);

        Quarterboard untouched = new Quarterboard();
        String due = Answers.of(untouched);
        Quarterboard other = Games.game(true, 4, 4, 5);
        other.keep();
        CHECK.equal("nothing is shared with another object", Answers.of(untouched), due);
        CHECK.equal("nor with one made after it", Answers.of(new Quarterboard()), due);
        CHECK.equal("the other has kept its board", other.isAlike(), true);
    }

    private static void beginAnother() {
        CHECK.sentence("Promise 2", "Begins another game. A board that is kept stays kept.");
        for (Position position : Position.values()) {
            for (int blocks = 0; blocks < 2; blocks++) {
                Quarterboard due = new Quarterboard();
                if (position.kept != null) {
                    Games.play(due, position.kept);
                    due.keep();
                }
                due.begin(blocks == 1);
                Quarterboard game = position.make();
                game.begin(blocks == 1);
                CHECK.equal("begun in " + position, Answers.of(game), Answers.of(due));
                if (position.kept == null) {
                    CHECK.notNow("no board is kept", game::isAlike);
                } else {
                    boolean isEmpty = position.kept.length == 0;
                    CHECK.equal("kept, and now empty", game.isAlike(), isEmpty);
                    Games.play(game, position.kept);
                    CHECK.equal("the kept board again", game.isAlike(), true);
                }
            }
        }
    }

    private static void whetherThereAreBlocks() {
        CHECK.sentence("Promise 2", "`hasBlocks`: whether there are the lines 10 to 18");
        Quarterboard game = new Quarterboard();
        boolean[] turns = {false, true, true, false, true, false, false};
        for (boolean hasBlocks : turns) {
            game.begin(hasBlocks);
            CHECK.equal("lines", game.lines(), hasBlocks ? 19 : 10);
            for (int line = 10; line <= 18; line++) {
                int block = line;
                CHECK.fails("line " + line, hasBlocks ? null : IndexOutOfBoundsException.class,
                    () -> game.onLine(block));
            }
            Games.play(game, Games.first(3, Games.BLOCK));
            CHECK.equal("winning by a block", game.winning(4), hasBlocks ? 1 << 5 : 0);
            game.give(4);
            CHECK.equal("a block", game.place(5), hasBlocks ? 1 : 0);
        }
    }

    private static void howManyWereOnTheBoard() {
        CHECK.sentence("Promise 2", "Returns number of pieces that were on the board.");
        Quarterboard game = new Quarterboard();
        for (int pieces = 0; pieces <= 16; pieces++) {
            Games.play(game, Games.drawn(pieces));
            CHECK.equal("begin", game.begin(pieces % 2 == 0), pieces);
            CHECK.equal("begin, again", game.begin(true), 0);
        }
        for (Position position : Position.values()) {
            CHECK.equal("begin in " + position, position.make().begin(false), position.placed());
        }
    }

    private static void givesAPiece() {
        CHECK.sentence("Promise 3", "Gives a piece.");
        for (Position position : Position.values()) {
            for (int piece = 0; piece < 16; piece++) {
                if (position.phase == 0 && !position.isOnBoard(piece)) {
                    Quarterboard game = position.make();
                    game.give(piece);
                    CHECK.equal(position + ": in the hand", game.hand(), piece);
                    CHECK.equal(position + ": to be placed", game.phase(), 1);
                    CHECK.equal(position + ": nothing is placed", game.placed(), position.placed());
                    CHECK.equal(position + ": nobody has won", game.winner(), -1);
                    CHECK.equal(position + ": the lines", game.lines(), position.lines());
                }
            }
        }
    }

    private static void giveEachPiece() {
        CHECK.sentence("Promise 3", "`piece`: 0 to 15");
        for (int piece = 0; piece < 16; piece++) {
            Quarterboard game = new Quarterboard();
            CHECK.equal("give(" + piece + ")", game.give(piece), 1);
            CHECK.equal("hand", game.hand(), piece);
        }
    }

    private static void whoGetsIt() {
        CHECK.sentence("Promise 3", "Returns the player who gets it.");
        Quarterboard game = new Quarterboard();
        for (int i = 0; i < 16; i++) {
            CHECK.equal("give number " + i, game.give(Games.DRAWN[2 * i]), i % 2 == 0 ? 1 : 0);
            CHECK.equal("on turn", game.onTurn(), i % 2 == 0 ? 1 : 0);
            game.place(Games.DRAWN[2 * i + 1]);
        }
        for (Position position : Position.values()) {
            Quarterboard again = position.make();
            again.begin(true);
            CHECK.equal("the first, after " + position, again.give(0), 1);
        }
    }

    private static void noSuchPieceToGive() {
        CHECK.sentence("Promise 3", "Throws `IndexOutOfBoundsException` if there is no such piece");
        for (Position position : Position.values()) {
            Quarterboard game = position.make();
            for (int piece : OUTSIDE) {
                CHECK.noPlace(position + ": give(" + piece + ")", () -> game.give(piece));
            }
        }
    }

    private static void noPieceIsToBeGiven() {
        CHECK.sentence("Promise 3", "Throws `IllegalStateException` if no piece is to be given, or the"
            + " piece is on the board");
        for (Position position : Position.values()) {
            Quarterboard game = position.make();
            for (int n = 0; n < 16; n++) {
                int piece = n;
                if (position.phase != 0 || position.isOnBoard(piece)) {
                    CHECK.notNow(position + ": give(" + n + ")", () -> game.give(piece));
                }
            }
        }
        Quarterboard again = Games.game(false, 7, 7, 8);
        again.begin(false);
        CHECK.equal("on the board of the game before", again.give(7), 1);
        again.begin(false);
        CHECK.equal("in the hand of the game before", again.give(8), 1);
    }

    private static void placesThePiece() {
        CHECK.sentence("Promise 4", "Places the piece in the hand.");
        for (Position position : Position.values()) {
            for (int square = 0; square < 16; square++) {
                if (position.phase == 1 && position.pieceAt(square) < 0) {
                    Quarterboard game = position.make();
                    game.place(square);
                    CHECK.equal(position + ": the hand is empty", game.hand(), -1);
                    CHECK.equal(position + ": placed", game.placed(), position.placed() + 1);
                    CHECK.equal(position + ": who placed", game.onTurn(), position.onTurn());
                    for (int other = 0; other < 16; other++) {
                        CHECK.equal(position + ": place(" + square + "), pieceAt(" + other + ")",
                            game.pieceAt(other),
                            other == square ? position.hand() : position.pieceAt(other));
                    }
                }
            }
        }
    }

    private static void placeOnEachSquare() {
        CHECK.sentence("Promise 4", "`square`: 0 to 15");
        for (int square = 0; square < 16; square++) {
            Quarterboard game = Games.game(true, 11);
            CHECK.equal("place(" + square + ")", game.place(square), 0);
            CHECK.equal("pieceAt(" + square + ")", game.pieceAt(square), 11);
            CHECK.equal("placed", game.placed(), 1);
        }
    }

    private static void howManyLinesAreWon() {
        CHECK.sentence("Promise 4", "Returns how many lines are won by it.");
        lines("the first piece", 0, Games.game(true, 0), 0);
        lines("three of a line", 0, Games.game(true, 0, 0, 1, 1, 2), 2);
        lines("four with nothing in common", 0, Games.game(true, 0, 0, 15, 1, 5, 2, 10), 3);
        lines("a line", 1, Games.game(true, 0, 0, 1, 1, 2, 2, 4), 3);
        lines("a line by two digits", 1, Games.game(true, 0, 0, 1, 1, 2, 2, 3), 3);
        lines("beside the line", 0, Games.game(true, 0, 0, 1, 1, 2, 2, 4), 4);
        lines("two lines", 2, Games.game(false, 1, 1, 2, 2, 4, 3, 3, 4, 5, 8, 6, 12, 7), 0);
        int[] meeting = {8, 1, 9, 2, 10, 3, 4, 4, 5, 8, 6, 12, 2, 5, 3, 10, 7, 15, 14};
        lines("three lines", 3, Games.game(false, meeting), 0);
        lines("three lines and a block", 4, Games.game(true, meeting), 0);
        int[] seven = Games.given(Games.BEFORE_SEVEN_LINES, 0);
        lines("all seven lines of a square", 7, Games.game(true, seven), 5);
        lines("the three that are no blocks", 3, Games.game(false, seven), 5);
        lines("the sixteenth, none", 0, Games.game(true, Games.given(Games.drawn(15), 7)), 15);
        int[] fullWon = Games.given(Games.first(15, Games.FULL_WON), 0);
        lines("the sixteenth, one", 1, Games.game(true, fullWon), 9);
    }

    private static void lines(String what, int due, Quarterboard game, int square) {
        CHECK.equal(what, game.place(square), due);
        CHECK.equal(what + ": is it over", game.phase() == 2, due > 0 || game.placed() == 16);
    }

    private static void noSuchSquareToPlaceOn() {
        CHECK.sentence("Promise 4", "Throws `IndexOutOfBoundsException` if there is no such square");
        for (Position position : Position.values()) {
            Quarterboard game = position.make();
            for (int square : OUTSIDE) {
                CHECK.noPlace(position + ": place(" + square + ")", () -> game.place(square));
            }
        }
    }

    private static void noPieceIsInTheHand() {
        CHECK.sentence("Promise 4", "Throws `IllegalStateException` if no piece is in the hand, or the"
            + " square is not empty");
        for (Position position : Position.values()) {
            Quarterboard game = position.make();
            for (int n = 0; n < 16; n++) {
                int square = n;
                if (position.hand() < 0 || position.pieceAt(square) >= 0) {
                    CHECK.notNow(position + ": place(" + n + ")", () -> game.place(square));
                }
            }
        }
        Quarterboard begun = Games.game(false, 7, 7, 8);
        begun.begin(false);
        CHECK.notNow("the hand of the game before", () -> begun.place(0));
        begun.give(7);
        CHECK.equal("the square of the game before", begun.place(7), 0);
    }

    private static void whatIsToBeDone() {
        CHECK.sentence("Promise 5",
            "Returns 0 a piece is to be given, 1 a piece is to be placed, 2 the game is over.");
        for (Position position : Position.values()) {
            Quarterboard game = position.make();
            CHECK.equal("phase of " + position, game.phase(), position.phase);
            game.begin(true);
            CHECK.equal("phase begun", game.phase(), 0);
        }
    }

    private static void whoIsOnTurn() {
        CHECK.sentence("Promise 6", "Returns 0 or 1; when the game is over the one who placed last.");
        for (Position position : Position.values()) {
            CHECK.equal("onTurn of " + position, position.make().onTurn(), position.onTurn());
        }
        CHECK.equal("player 0 placed last", Games.game(false, Games.WON).onTurn(), 0);
        CHECK.equal("player 1 placed last", Games.game(false, Games.WON_BY_ONE).onTurn(), 1);
        CHECK.equal("nobody has won", Games.game(true, Games.DRAWN).onTurn(), 0);
        CHECK.equal("won on a full board", Games.game(true, Games.FULL_WON).onTurn(), 0);
    }

    private static void whatIsInTheHand() {
        CHECK.sentence("Promise 7", "Returns the piece, -1 if there is none.");
        for (Position position : Position.values()) {
            Quarterboard game = position.make();
            CHECK.equal("hand of " + position, game.hand(), position.hand());
            game.begin(false);
            CHECK.equal("hand begun", game.hand(), -1);
        }
        for (int piece = 0; piece < 16; piece++) {
            Quarterboard game = Games.game(true, piece);
            CHECK.equal("hand", game.hand(), piece);
            game.place(15 - piece);
            CHECK.equal("hand, placed", game.hand(), -1);
        }
    }

    private static void lookAtEachSquare() {
        CHECK.sentence("Promise 8", "`square`: 0 to 15");
        Quarterboard game = new Quarterboard();
        for (int n = 0; n < 16; n++) {
            int square = n;
            CHECK.fails("pieceAt(" + n + ")", null, () -> game.pieceAt(square));
        }
        CHECK.noPlace("pieceAt(-1)", () -> game.pieceAt(-1));
        CHECK.noPlace("pieceAt(16)", () -> game.pieceAt(16));
    }

    private static void whatIsOnASquare() {
        CHECK.sentence("Promise 8", "Returns the piece, -1 if the square is empty.");
        for (Position position : Position.values()) {
            Quarterboard game = position.make();
            for (int square = 0; square < 16; square++) {
                CHECK.equal(position + ": pieceAt(" + square + ")", game.pieceAt(square),
                    position.pieceAt(square));
            }
        }
        for (int piece = 0; piece < 16; piece++) {
            for (int square = 0; square < 16; square++) {
                Quarterboard game = Games.game(false, piece, square);
                CHECK.equal("piece", game.pieceAt(square), piece);
                CHECK.equal("beside it", game.pieceAt((square + 1) % 16), -1);
            }
        }
    }

    private static void noSuchSquareToLookAt() {
        CHECK.sentence("Promise 8", "Throws `IndexOutOfBoundsException` if there is no such square");
        for (Position position : Position.values()) {
            Quarterboard game = position.make();
            for (int square : OUTSIDE) {
                CHECK.noPlace(position + ": pieceAt(" + square + ")", () -> game.pieceAt(square));
            }
        }
    }

    private static void howManyAreOnTheBoard() {
        CHECK.sentence("Promise 9", "Returns 0 to 16.");
        Quarterboard game = new Quarterboard();
        for (int i = 0; i < 16; i++) {
            CHECK.equal("placed, to give", game.placed(), i);
            game.give(Games.DRAWN[2 * i]);
            CHECK.equal("placed, to place", game.placed(), i);
            Check.thrownBy(() -> game.place(16));
            CHECK.equal("placed, refused", game.placed(), i);
            game.place(Games.DRAWN[2 * i + 1]);
        }
        CHECK.equal("placed, full", game.placed(), 16);
        game.begin(false);
        CHECK.equal("placed, begun", game.placed(), 0);
        CHECK.equal("placed, won", Games.game(false, Games.WON).placed(), 4);
    }

    private static void whoHasWon() {
        CHECK.sentence("Promise 10",
            "Returns 0 or 1, 2 if nobody has won and the game is over, -1 if it is not over.");
        for (Position position : Position.values()) {
            Quarterboard game = position.make();
            CHECK.equal("winner of " + position, game.winner(), position.winner);
            game.begin(false);
            CHECK.equal("winner begun", game.winner(), -1);
        }
    }

    public static void main(String[] args) {
        aNewObject();
        beginAnother();
        whetherThereAreBlocks();
        howManyWereOnTheBoard();
        givesAPiece();
        giveEachPiece();
        whoGetsIt();
        noSuchPieceToGive();
        noPieceIsToBeGiven();
        placesThePiece();
        placeOnEachSquare();
        howManyLinesAreWon();
        noSuchSquareToPlaceOn();
        noPieceIsInTheHand();
        whatIsToBeDone();
        whoIsOnTurn();
        whatIsInTheHand();
        lookAtEachSquare();
        whatIsOnASquare();
        noSuchSquareToLookAt();
        howManyAreOnTheBoard();
        whoHasWon();
        CHECK.end();
    }
}
