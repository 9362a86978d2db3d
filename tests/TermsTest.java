/** "What it is" and Terms: the pieces, the squares, the lines, and the course of a game. */
public final class TermsTest {
    private static final Check CHECK = new Check();

    private static void sixteenSquaresAndPieces() {
        CHECK.sentence("What it is", "A game of lines on a board of four by four squares with sixteen"
            + " shared pieces: players give each other pieces to place, and win by a line of pieces"
            + " that have a mark in common.");
        for (int piece = 0; piece < 16; piece++) {
            CHECK.equal("player 0 gives " + piece, new Quarterboard().give(piece), 1);
            Quarterboard game = Games.game(true, piece == 0 ? 1 : 0, 0);
            CHECK.equal("player 1 gives " + piece, game.give(piece), 0);
        }
        for (int square = 0; square < 16; square++) {
            Quarterboard game = Games.game(false, 3, square);
            CHECK.equal("a piece on square " + square, game.pieceAt(square), 3);
        }
        CHECK.equal("all sixteen are placed", Games.game(true, Games.DRAWN).placed(), 16);
    }

    private static final int MOST_CALLS = 512;

    /** Each call as the 512th, in a position of every kind, answers as it does in a new object. */
    private static void fiveHundredAndTwelveCalls() {
        CHECK.sentence("What it is", "An object is used for at most 512 calls after it has been made;"
            + " what later calls answer is free.");
        for (Position position : Position.values()) {
            Answers due = new Answers(position.make());
            for (int i = 0; i < due.count(); i++) {
                String got = new Answers(beforeTheLastCall(position)).answer(i);
                CHECK.equal(position + ": call 512, " + due.name(i), got, due.answer(i));
            }
            CHECK.equal(position + ": call 512, begin(true)",
                beforeTheLastCall(position).begin(true), position.placed());
            CHECK.equal(position + ": call 512, keep()",
                beforeTheLastCall(position).keep(), position.placed());
        }
        CHECK.equal("call 512, give(0)", beforeTheLastCall(Position.SOME_PLACED).give(0), 1);
        CHECK.equal("call 512, place(3)", beforeTheLastCall(Position.ABOUT_TO_WIN).place(3), 1);
        Quarterboard kept = new Quarterboard();
        for (int call = 1; call < MOST_CALLS; call++) {
            CHECK.equal("keep, call " + call, kept.keep(), 0);
        }
        CHECK.equal("call 512, isAlike()", kept.isAlike(), true);
        Quarterboard begun = new Quarterboard();
        for (int call = 1; call < MOST_CALLS; call++) {
            CHECK.equal("begin, call " + call, begun.begin(call % 2 == 1), 0);
        }
        CHECK.equal("call 512, lines()", begun.lines(), 19);
    }

    private static Quarterboard beforeTheLastCall(Position position) {
        Quarterboard game = position.make();
        Answers answers = new Answers(game);
        for (int call = position.calls() + 1; call < MOST_CALLS; call++) {
            answers.answer(call % answers.count());
        }
        return game;
    }

    private static void piecesAreNumbered() {
        CHECK.sentence("Terms", "Pieces are numbered 0 to 15.");
        Quarterboard game = new Quarterboard();
        CHECK.noPlace("give(-1)", () -> game.give(-1));
        CHECK.noPlace("give(16)", () -> game.give(16));
        CHECK.noPlace("winning(-1)", () -> game.winning(-1));
        CHECK.noPlace("winning(16)", () -> game.winning(16));
        CHECK.equal("winning(0)", game.winning(0), 0);
        CHECK.equal("winning(15)", game.winning(15), 0);
        CHECK.equal("give(0)", game.give(0), 1);
        game.place(0);
        CHECK.equal("give(15)", game.give(15), 0);
        CHECK.equal("hand", game.hand(), 15);
    }

    private static void marksAreBinaryDigits() {
        CHECK.sentence("Terms", "Each piece has four marks, 0 to 3: mark m is the binary digit of its"
            + " number with the place value 2 to the power of m, which is 1 or 0.");
        String[] digits = {
            "0000", "1000", "0100", "1100", "0010", "1010", "0110", "1110",
            "0001", "1001", "0101", "1101", "0011", "1011", "0111", "1111"
        };
        for (int piece = 0; piece < 16; piece++) {
            Quarterboard game = Games.game(false, piece, 0);
            StringBuilder told = new StringBuilder();
            for (int mark = 0; mark < 4; mark++) {
                int isOne = game.shared(0) >> mark & 1;
                int isZero = game.shared(0) >> (mark + 4) & 1;
                told.append(isOne == isZero ? '?' : (char) ('0' + isOne));
            }
            CHECK.equal("marks 0 to 3 of " + piece, told.toString(), digits[piece]);
        }
    }

    private static void rowsAndColumns() {
        CHECK.sentence("Terms", "The squares are numbered 0 to 15; square s is in the row s / 4,"
            + " rounded down, and in the column that is the remainder.");
        for (int square = 0; square < 16; square++) {
            Quarterboard game = Games.game(false, 9, square);
            for (int n = 0; n < 4; n++) {
                CHECK.equal(square + " in row " + n, game.onLine(n), n == square / 4 ? 1 : 0);
                CHECK.equal(square + " in column " + n, game.onLine(4 + n), n == square % 4 ? 1 : 0);
            }
        }
        Quarterboard game = Games.game(false, 9);
        CHECK.noPlace("place(-1)", () -> game.place(-1));
        CHECK.noPlace("place(16)", () -> game.place(16));
        CHECK.noPlace("pieceAt(-1)", () -> game.pieceAt(-1));
        CHECK.noPlace("pieceAt(16)", () -> game.pieceAt(16));
    }

    private static void tenLines() {
        CHECK.sentence("Terms", "Lines are numbered: 0 to 3 are the rows, 4 to 7 the columns, 8 the"
            + " diagonal of the squares 0, 5, 10 and 15, and 9 that of the squares 3, 6, 9 and 12.");
        for (int line = 0; line < 10; line++) {
            onlyOnItsSquares(line, false);
            onlyOnItsSquares(line, true);
        }
        noOtherSquaresAreALine(false, 10);
    }

    private static void nineBlocks() {
        CHECK.sentence("Terms", "In a game with blocks there are also the lines 10 to 18: line"
            + " 10 + 3 * r + c has the four squares in the rows r and r + 1 and the columns c and"
            + " c + 1, for r and c from 0 to 2.");
        for (int r = 0; r <= 2; r++) {
            for (int c = 0; c <= 2; c++) {
                int line = 10 + 3 * r + c;
                int[] due = {4 * r + c, 4 * r + c + 1, 4 * (r + 1) + c, 4 * (r + 1) + c + 1};
                CHECK.equal("squares of " + line, java.util.Arrays.toString(Games.squaresOf(line)),
                    java.util.Arrays.toString(due));
                onlyOnItsSquares(line, true);
            }
        }
        Quarterboard without = Games.game(false, 9, 0);
        CHECK.noPlace("line 10 without blocks", () -> without.onLine(10));
        CHECK.noPlace("line 18 without blocks", () -> without.onLine(18));
        Quarterboard with = Games.game(true, 9, 0);
        CHECK.noPlace("line 19 with blocks", () -> with.onLine(19));
        noOtherSquaresAreALine(true, 19);
    }

    private static void onlyOnItsSquares(int line, boolean hasBlocks) {
        for (int square = 0; square < 16; square++) {
            int due = 0;
            for (int other : Games.squaresOf(line)) {
                due += other == square ? 1 : 0;
            }
            Quarterboard game = Games.game(hasBlocks, 9, square);
            CHECK.equal("square " + square + " on line " + line, game.onLine(line), due);
        }
    }

    /** All sets of four squares: no row, column or block goes round an edge, no diagonal is broken. */
    private static void noOtherSquaresAreALine(boolean hasBlocks, int lines) {
        int[] pieces = {1, 3, 5, 9};
        int won = 0;
        for (int set = 0; set <= 0xFFFF; set++) {
            if (Integer.bitCount(set) == 4) {
                boolean isLine = false;
                for (int line = 0; line < lines; line++) {
                    isLine |= setOf(Games.squaresOf(line)) == set;
                }
                Quarterboard game = Games.game(hasBlocks);
                int answer = 0;
                int rest = set;
                for (int piece : pieces) {
                    game.give(piece);
                    answer = game.place(Integer.numberOfTrailingZeros(rest));
                    rest &= rest - 1;
                }
                CHECK.equal("squares " + Integer.toHexString(set), answer, isLine ? 1 : 0);
                won += answer;
            }
        }
        CHECK.equal("so many lines can be won", won, lines);
    }

    private static int setOf(int[] numbers) {
        int set = 0;
        for (int number : numbers) {
            set |= 1 << number;
        }
        return set;
    }

    /** Any four pieces, on each line. */
    private static void whenALineIsWon() {
        CHECK.sentence("Terms", "A line is won if there is a piece on each of its squares, and for some"
            + " mark all four pieces have the same digit.");
        for (int pieces = 0; pieces <= 0xFFFF; pieces++) {
            if (Integer.bitCount(pieces) == 4) {
                int[] four = new int[4];
                int rest = pieces;
                for (int i = 0; i < 4; i++) {
                    four[i] = Integer.numberOfTrailingZeros(rest);
                    rest &= rest - 1;
                }
                int ones = four[0] & four[1] & four[2] & four[3];
                int zeros = ~(four[0] | four[1] | four[2] | four[3]) & 15;
                for (int line = 0; line < 19; line++) {
                    fourOnALine(line, four, ones + zeros > 0);
                }
            }
        }
    }

    private static void fourOnALine(int line, int[] pieces, boolean isWon) {
        int[] squares = Games.squaresOf(line);
        Quarterboard game = new Quarterboard();
        if (line >= 10) {
            game.begin(true);
        }
        int wonBefore = 0;
        int won = 0;
        for (int i = 0; i < 4; i++) {
            wonBefore += won;
            game.give(pieces[i]);
            won = game.place(squares[i]);
        }
        String what = java.util.Arrays.toString(pieces) + " on line " + line;
        CHECK.equal(what + ", before the fourth", wonBefore, 0);
        CHECK.equal(what, won, isWon ? 1 : 0);
        CHECK.equal(what + ", phase", game.phase(), isWon ? 2 : 0);
    }

    private static void playerZeroGivesFirst() {
        CHECK.sentence("Terms", "The players are 0 and 1. Player 0 gives first.");
        CHECK.equal("a new object", new Quarterboard().onTurn(), 0);
        for (Position position : Position.values()) {
            Quarterboard game = position.make();
            game.begin(true);
            CHECK.equal("begun in " + position, game.onTurn(), 0);
            CHECK.equal("player 1 gets the first piece", game.give(3), 1);
        }
    }

    private static void whatMayBeGiven() {
        CHECK.sentence("Terms", "To give means to choose a piece that is neither on the board nor in"
            + " the hand; the other player gets it into the hand, and places it on an empty square.");
        Quarterboard game = new Quarterboard();
        game.give(9);
        CHECK.notNow("the piece in the hand", () -> game.give(9));
        CHECK.equal("the other player", game.onTurn(), 1);
        CHECK.equal("in the hand", game.hand(), 9);
        game.place(6);
        CHECK.notNow("the piece on the board", () -> game.give(9));
        game.give(8);
        CHECK.notNow("on a square that is not empty", () -> game.place(6));
        CHECK.equal("the other player than before", game.onTurn(), 0);
        CHECK.equal("on an empty square", game.place(7), 0);
        Quarterboard full = new Quarterboard();
        for (int i = 0; i < 16; i++) {
            for (int j = 0; j < 16; j++) {
                int piece = Games.DRAWN[2 * j];
                if (j < i) {
                    CHECK.notNow("given before: " + piece, () -> full.give(piece));
                }
            }
            full.give(Games.DRAWN[2 * i]);
            for (int j = 0; j < i; j++) {
                int square = Games.DRAWN[2 * j + 1];
                CHECK.notNow("not empty: " + square, () -> full.place(square));
            }
            CHECK.equal("empty: " + i, full.place(Games.DRAWN[2 * i + 1]), 0);
        }
    }

    private static void whoHasWon() {
        CHECK.sentence("Terms", "If a line is won by that, the player who placed the piece has won, and"
            + " the game is over.");
        won("player 0", 0, false, Games.WON);
        won("player 1", 1, false, Games.WON_BY_ONE);
        won("by a block", 0, true, Games.BLOCK);
        won("on a full board", 0, false, Games.FULL_WON);
        won("on a full board with blocks", 0, true, Games.FULL_WON);
        won("on a full board by a block", 0, true, Games.FULL_WON_BY_BLOCK);
    }

    private static void won(String what, int player, boolean hasBlocks, int[] moves) {
        Quarterboard game = Games.game(hasBlocks, java.util.Arrays.copyOf(moves, moves.length - 1));
        CHECK.equal(what + ": not yet", game.winner(), -1);
        CHECK.equal(what + ": to place", game.phase(), 1);
        CHECK.equal(what + ": one line", game.place(moves[moves.length - 1]), 1);
        CHECK.equal(what, game.winner(), player);
        CHECK.equal(what + ": is over", game.phase(), 2);
    }

    private static void nobodyHasWon() {
        CHECK.sentence("Terms", "If no square is empty then, and no line is won, the game is over, and"
            + " nobody has won.");
        drawn("without blocks", false, Games.DRAWN);
        drawn("with blocks", true, Games.DRAWN);
        drawn("with a block that does not count", false, Games.FULL_WON_BY_BLOCK);
    }

    private static void drawn(String what, boolean hasBlocks, int[] moves) {
        Quarterboard game = Games.game(hasBlocks, Games.first(15, moves));
        CHECK.equal(what + ": one square is empty", game.phase(), 0);
        CHECK.equal(what + ": not over", game.winner(), -1);
        game.give(moves[30]);
        CHECK.equal(what + ": the last piece is in the hand", game.winner(), -1);
        CHECK.equal(what + ": no line", game.place(moves[31]), 0);
        CHECK.equal(what + ": over", game.phase(), 2);
        CHECK.equal(what + ": nobody", game.winner(), 2);
    }

    private static void whoGivesNext() {
        CHECK.sentence("Terms", "Otherwise the player who has placed gives next.");
        Quarterboard game = Games.game(true);
        for (int i = 0; i < 15; i++) {
            int player = game.give(Games.DRAWN[2 * i]);
            game.place(Games.DRAWN[2 * i + 1]);
            CHECK.equal("placed and gives, " + i, game.onTurn(), player);
            CHECK.equal("to give, " + i, game.phase(), 0);
        }
    }

    public static void main(String[] args) {
        sixteenSquaresAndPieces();
        fiveHundredAndTwelveCalls();
        piecesAreNumbered();
        marksAreBinaryDigits();
        rowsAndColumns();
        tenLines();
        nineBlocks();
        whenALineIsWon();
        playerZeroGivesFirst();
        whatMayBeGiven();
        whoHasWon();
        nobodyHasWon();
        whoGivesNext();
        CHECK.end();
    }
}
