/** Promises 11 to 13, sentence by sentence, at the edges that each names. */
public final class LinesEdgesTest {
    private static final Check CHECK = new Check();

    private static final int[] FAR_OUTSIDE = {
        Integer.MIN_VALUE, Integer.MIN_VALUE + 10, -19, -10, -2, -1, 19, 20, 32, 42, 64, 256, 65536,
        Integer.MAX_VALUE
    };

    private static void howManyLinesThereAre() {
        CHECK.sentence("Promise 11", "Returns 10, or 19 with blocks.");
        for (Position position : Position.values()) {
            Quarterboard game = position.make();
            CHECK.equal("lines of " + position, game.lines(), position.lines());
            game.begin(true);
            CHECK.equal("lines begun with blocks", game.lines(), 19);
            game.begin(false);
            CHECK.equal("lines begun without", game.lines(), 10);
        }
    }

    private static void whichNumbersAreLines() {
        CHECK.sentence("Promise 12", "`line`: a line");
        for (int blocks = 0; blocks < 2; blocks++) {
            Quarterboard game = Games.game(blocks == 1);
            for (int n = -1; n <= 19; n++) {
                int line = n;
                Class<?> due = n < 0 || n > (blocks == 1 ? 18 : 9)
                    ? IndexOutOfBoundsException.class : null;
                CHECK.fails("onLine(" + n + ")", due, () -> game.onLine(line));
            }
        }
        CHECK.sentence("Promise 13", "`line`: a line");
        for (int blocks = 0; blocks < 2; blocks++) {
            Quarterboard game = Games.game(blocks == 1);
            for (int n = -1; n <= 19; n++) {
                int line = n;
                Class<?> due = n < 0 || n > (blocks == 1 ? 18 : 9)
                    ? IndexOutOfBoundsException.class : null;
                CHECK.fails("shared(" + n + ")", due, () -> game.shared(line));
            }
        }
    }

    private static void noneToFourOnALine() {
        CHECK.sentence("Promise 12", "Returns 0 to 4.");
        int[] pieces = {0, 15, 5, 10};
        for (int line = 0; line < 19; line++) {
            int[] squares = Games.squaresOf(line);
            Quarterboard game = Games.game(true);
            CHECK.equal("none on " + line, game.onLine(line), 0);
            for (int i = 0; i < 4; i++) {
                game.give(pieces[i]);
                CHECK.equal("in the hand, " + line, game.onLine(line), i);
                game.place(squares[i]);
                CHECK.equal("placed on " + line, game.onLine(line), i + 1);
            }
            game.begin(true);
            CHECK.equal("none again on " + line, game.onLine(line), 0);
        }
        CHECK.equal("four on a line that is won", Games.game(false, Games.WON).onLine(0), 4);
        Quarterboard full = Games.game(true, Games.DRAWN);
        for (int line = 0; line < 19; line++) {
            CHECK.equal("a full board, line " + line, full.onLine(line), 4);
        }
        for (Position position : Position.values()) {
            Quarterboard game = position.make();
            for (int line = 0; line < position.lines(); line++) {
                int due = 0;
                for (int square : Games.squaresOf(line)) {
                    due += position.pieceAt(square) >= 0 ? 1 : 0;
                }
                CHECK.equal(position + ": onLine(" + line + ")", game.onLine(line), due);
            }
        }
    }

    private static void noSuchLineToCountOn() {
        CHECK.sentence("Promise 12", "Throws `IndexOutOfBoundsException` if there is no such line");
        for (Position position : Position.values()) {
            Quarterboard game = position.make();
            for (int line : FAR_OUTSIDE) {
                CHECK.noPlace(position + ": onLine(" + line + ")", () -> game.onLine(line));
            }
            for (int n = 10; n <= 18; n++) {
                int line = n;
                CHECK.fails(position + ": onLine(" + n + ")",
                    position.hasBlocks ? null : IndexOutOfBoundsException.class,
                    () -> game.onLine(line));
            }
            CHECK.fails(position + ": onLine(0)", null, () -> game.onLine(0));
            CHECK.fails(position + ": onLine(9)", null, () -> game.onLine(9));
        }
    }

    private static void allDigitsWithoutPieces() {
        CHECK.sentence("Promise 13", "Returns a set: bit m if all of them have the digit 1 for mark m,"
            + " and bit m + 4 if all of them have 0 for it; all eight bits without pieces.");
        Quarterboard empty = Games.game(true, 6);
        for (int line = 0; line < 19; line++) {
            CHECK.equal("an empty board, line " + line, empty.shared(line), 255);
        }
        for (int line = 0; line < 19; line++) {
            Quarterboard around = besideTheLine(line);
            CHECK.equal("all squares but those of line " + line, around.shared(line), 255);
            CHECK.equal("no piece on line " + line, around.onLine(line), 0);
        }
    }

    /** Pieces on all squares that the line does not have, in games that go on. */
    private static Quarterboard besideTheLine(int line) {
        Quarterboard game = Games.game(true);
        for (int i = 0; i < 16; i++) {
            int square = Games.DRAWN[2 * i + 1];
            boolean isOnLine = false;
            for (int other : Games.squaresOf(line)) {
                isOnLine |= other == square;
            }
            if (!isOnLine) {
                Games.play(game, Games.DRAWN[2 * i], square);
            }
        }
        return game;
    }

    private static void digitsOfOneToFour() {
        CHECK.sentence("Promise 13", "Returns the digits that all pieces on a line have in common.");
        for (int line = 0; line < 19; line++) {
            int[] squares = Games.squaresOf(line);
            for (int piece = 0; piece < 16; piece++) {
                Quarterboard one = Games.game(true, piece, squares[piece % 4]);
                CHECK.equal("one piece on " + line, one.shared(line), piece | (15 - piece) << 4);
            }
            Quarterboard game = Games.game(true, 5, squares[3]);
            CHECK.equal("5 on " + line, game.shared(line), 0b1010_0101);
            game.give(10);
            CHECK.equal("the hand is not on " + line, game.shared(line), 0b1010_0101);
            game.begin(true);
            Games.play(game, 5, squares[3], 7, squares[2]);
            CHECK.equal("5 and 7 on " + line, game.shared(line), 0b1000_0101);
            Games.play(game, 15, squares[1]);
            CHECK.equal("5, 7 and 15 on " + line, game.shared(line), 0b0000_0101);
            Games.play(game, 0, squares[0]);
            CHECK.equal("nothing in common on " + line, game.shared(line), 0);
            game.begin(true);
            Games.play(game, 1, squares[0], 0, squares[1], 4, squares[2], 8, squares[3]);
            CHECK.equal("four that win on " + line, game.shared(line), 0b0010_0000);
            game.begin(true);
            Games.play(game, 15, squares[0], 14, squares[1], 12, squares[2], 13, squares[3]);
            CHECK.equal("four that win by two on " + line, game.shared(line), 0b0000_1100);
            game.begin(true);
            Games.play(game, 0, squares[0], 15, squares[1]);
            CHECK.equal("two with nothing in common on " + line, game.shared(line), 0);
        }
        Quarterboard full = Games.game(true, Games.DRAWN);
        for (int line = 0; line < 19; line++) {
            CHECK.equal("a full board without a win, line " + line, full.shared(line), 0);
        }
    }

    private static void noSuchLineToCompareOn() {
        CHECK.sentence("Promise 13", "Throws `IndexOutOfBoundsException` if there is no such line");
        for (Position position : Position.values()) {
            Quarterboard game = position.make();
            for (int line : FAR_OUTSIDE) {
                CHECK.noPlace(position + ": shared(" + line + ")", () -> game.shared(line));
            }
            for (int n = 10; n <= 18; n++) {
                int line = n;
                CHECK.fails(position + ": shared(" + n + ")",
                    position.hasBlocks ? null : IndexOutOfBoundsException.class,
                    () -> game.shared(line));
            }
            CHECK.fails(position + ": shared(0)", null, () -> game.shared(0));
            CHECK.fails(position + ": shared(9)", null, () -> game.shared(9));
        }
    }

    public static void main(String[] args) {
        howManyLinesThereAre();
        whichNumbersAreLines();
        noneToFourOnALine();
        noSuchLineToCountOn();
        allDigitsWithoutPieces();
        digitsOfOneToFour();
        noSuchLineToCompareOn();
        CHECK.end();
    }
}
