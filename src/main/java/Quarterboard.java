/**
 * A game of lines on a board of four by four squares with sixteen shared pieces: players give each
 * other pieces to place, and win by a line of pieces that have a mark in common.
 *
 * Sets of squares and of pieces are bits of an int, bit n for number n. The marks of all pieces on
 * the board are one long: bit 16 * m + s is the digit of mark m of the piece on square s.
 */
public final class Quarterboard {
    private static final int TO_GIVE = 0;
    private static final int TO_PLACE = 1;
    private static final int OVER = 2;

    private static final int NONE = -1;
    private static final int NOBODY = 2;

    private static final int COUNT = 16;
    private static final int ALL = 0xFFFF;
    private static final int MARKS = 4;
    private static final int TURNS = 8;
    private static final int WAYS_OF_MARKS = 384;

    private static final int MOST_PLACINGS = 4;
    private static final int MOST_EMPTY_FOR_THREE = 8;
    private static final int MOST_EMPTY_FOR_FOUR = 6;

    private static final int LINES_WITHOUT_BLOCKS = 10;
    private static final int[] LINES = {
        0x000F, 0x00F0, 0x0F00, 0xF000,
        0x1111, 0x2222, 0x4444, 0x8888,
        0x8421, 0x1248,
        0x0033, 0x0066, 0x00CC,
        0x0330, 0x0660, 0x0CC0,
        0x3300, 0x6600, 0xCC00
    };

    /** The same square in each of the four sets that make up the digits of a board. */
    private static final long EACH_MARK = 0x0001000100010001L;

    private boolean withBlocks;
    private int stage;
    private int player;
    private int held;
    private int victor;

    private int filled;
    private int used;
    private long digits;

    private boolean hasKept;
    private int keptFilled;
    private long keptDigits;

    public Quarterboard() {
        held = NONE;
        victor = NONE;
    }

    // ---- playing

    public int begin(boolean hasBlocks) {
        int before = Integer.bitCount(filled);
        withBlocks = hasBlocks;
        stage = TO_GIVE;
        player = 0;
        held = NONE;
        victor = NONE;
        filled = 0;
        used = 0;
        digits = 0L;
        return before;
    }

    public int give(int piece) throws IndexOutOfBoundsException, IllegalStateException {
        if (!isNumber(piece)) {
            throw new IndexOutOfBoundsException("no such piece");
        }
        if (stage != TO_GIVE) {
            throw new IllegalStateException("no piece is to be given");
        }
        if (has(used, piece)) {
            throw new IllegalStateException("the piece is on the board");
        }
        held = piece;
        player = 1 - player;
        stage = TO_PLACE;
        return player;
    }

    public int place(int square) throws IndexOutOfBoundsException, IllegalStateException {
        if (!isNumber(square)) {
            throw new IndexOutOfBoundsException("no such square");
        }
        if (stage != TO_PLACE) {
            throw new IllegalStateException("no piece is in the hand");
        }
        if (has(filled, square)) {
            throw new IllegalStateException("the square is not empty");
        }
        put(held, square);
        held = NONE;
        int won = wonLines();
        if (won > 0) {
            stage = OVER;
            victor = player;
        } else if (filled == ALL) {
            stage = OVER;
            victor = NOBODY;
        } else {
            stage = TO_GIVE;
        }
        return won;
    }

    public int phase() {
        return stage;
    }

    public int onTurn() {
        return player;
    }

    public int hand() {
        return held;
    }

    public int pieceAt(int square) throws IndexOutOfBoundsException {
        if (!isNumber(square)) {
            throw new IndexOutOfBoundsException("no such square");
        }
        if (!has(filled, square)) {
            return NONE;
        }
        int piece = 0;
        for (int mark = 0; mark < MARKS; mark++) {
            if (has(withOne(digits, mark), square)) {
                piece |= 1 << mark;
            }
        }
        return piece;
    }

    public int placed() {
        return Integer.bitCount(filled);
    }

    public int winner() {
        return victor;
    }

    // ---- lines

    public int lines() {
        return withBlocks ? LINES.length : LINES_WITHOUT_BLOCKS;
    }

    public int onLine(int line) throws IndexOutOfBoundsException {
        if (line < 0 || line >= lines()) {
            throw new IndexOutOfBoundsException("no such line");
        }
        return Integer.bitCount(LINES[line] & filled);
    }

    public int shared(int line) throws IndexOutOfBoundsException {
        if (line < 0 || line >= lines()) {
            throw new IndexOutOfBoundsException("no such line");
        }
        return inCommon(LINES[line]);
    }

    // ---- what could be

    public int winning(int piece) throws IndexOutOfBoundsException, IllegalStateException {
        if (!isNumber(piece)) {
            throw new IndexOutOfBoundsException("no such piece");
        }
        if (stage == OVER) {
            throw new IllegalStateException("the game is over");
        }
        if (has(used, piece)) {
            throw new IllegalStateException("the piece is on the board");
        }
        return winningSquares(piece);
    }

    public int safe() throws IllegalStateException {
        if (stage != TO_GIVE) {
            throw new IllegalStateException("no piece is to be given");
        }
        return safePieces();
    }

    public int worth(int placings) throws IllegalArgumentException, IllegalStateException {
        if (placings < 1 || placings > MOST_PLACINGS) {
            throw new IllegalArgumentException("placings is out of range");
        }
        if (!canLookAhead(placings)) {
            throw new IllegalStateException("the game is over, or too many squares are empty");
        }
        return stage == TO_GIVE ? worthToGive(placings) : worthToPlace(held, placings);
    }

    public int best(int placings) throws IllegalArgumentException, IllegalStateException {
        if (placings < 1 || placings > MOST_PLACINGS) {
            throw new IllegalArgumentException("placings is out of range");
        }
        if (!canLookAhead(placings)) {
            throw new IllegalStateException("the game is over, or too many squares are empty");
        }
        return stage == TO_GIVE ? bestPiece(placings) : bestSquare(placings);
    }

    // ---- boards that are alike

    public int keep() {
        hasKept = true;
        keptFilled = filled;
        keptDigits = digits;
        return Integer.bitCount(filled);
    }

    public boolean isAlike() throws IllegalStateException {
        if (!hasKept) {
            throw new IllegalStateException("no board is kept");
        }
        for (int turn = 0; turn < TURNS; turn++) {
            if (waysOfMarks(turn, keptFilled, keptDigits) > 0) {
                return true;
            }
        }
        return false;
    }

    public int symmetries() {
        int ways = 0;
        for (int turn = 0; turn < TURNS; turn++) {
            ways += waysOfMarks(turn, filled, digits);
        }
        return ways;
    }

    // ---- numbers and sets

    private static boolean isNumber(int number) {
        return number >= 0 && number < COUNT;
    }

    private static boolean has(int set, int number) {
        return (set & 1 << number) != 0;
    }

    /** The squares whose piece has the digit 1 for the mark. */
    private static int withOne(long boardDigits, int mark) {
        return (int) (boardDigits >>> (COUNT * mark)) & ALL;
    }

    /** The digits of a piece as in shared(): bit m for a 1, bit m + 4 for a 0. */
    private static int ownDigits(int piece) {
        return piece | (~piece & 0xF) << MARKS;
    }

    /** The digits of a piece as they stand in the digits of a board if it is on the square 0. */
    private static long atFirstSquare(int piece) {
        return (piece & 1L) | (piece & 2L) << 15 | (piece & 4L) << 30 | (piece & 8L) << 45;
    }

    // ---- the board

    private void put(int piece, int square) {
        filled |= 1 << square;
        used |= 1 << piece;
        digits |= atFirstSquare(piece) << square;
    }

    private void lift(int piece, int square) {
        filled &= ~(1 << square);
        used &= ~(1 << piece);
        digits &= ~(EACH_MARK << square);
    }

    /** The digits that all pieces on the squares have in common, as shared() returns them. */
    private int inCommon(int squares) {
        int there = squares & filled;
        int common = 0;
        for (int mark = 0; mark < MARKS; mark++) {
            int ones = withOne(digits, mark) & there;
            if (ones == there) {
                common |= 1 << mark;
            }
            if (ones == 0) {
                common |= 1 << (mark + MARKS);
            }
        }
        return common;
    }

    /** All lines count, not those of one square alone: the game has ended before a second win. */
    private int wonLines() {
        int won = 0;
        for (int line = 0; line < lines(); line++) {
            int squares = LINES[line];
            if ((squares & ~filled) == 0 && inCommon(squares) != 0) {
                won++;
            }
        }
        return won;
    }

    private boolean lacksOne(int squares) {
        int empty = squares & ~filled;
        return empty != 0 && (empty & (empty - 1)) == 0;
    }

    private int winningSquares(int piece) {
        int own = ownDigits(piece);
        int winning = 0;
        for (int line = 0; line < lines(); line++) {
            int squares = LINES[line];
            if (lacksOne(squares) && (inCommon(squares) & own) != 0) {
                winning |= squares & ~filled;
            }
        }
        return winning;
    }

    /** The digits with which a piece, placed on the right square, wins now. */
    private int winningDigits() {
        int winning = 0;
        for (int line = 0; line < lines(); line++) {
            int squares = LINES[line];
            if (lacksOne(squares)) {
                winning |= inCommon(squares);
            }
        }
        return winning;
    }

    /** The pieces not on the board that win on no square now. */
    private int safePieces() {
        int winning = winningDigits();
        int pieces = 0;
        for (int piece = 0; piece < COUNT; piece++) {
            if (!has(used, piece) && (ownDigits(piece) & winning) == 0) {
                pieces |= 1 << piece;
            }
        }
        return pieces;
    }

    // ---- looking ahead

    private boolean canLookAhead(int placings) {
        int empty = COUNT - Integer.bitCount(filled);
        if (placings == 3 && empty > MOST_EMPTY_FOR_THREE) {
            return false;
        }
        if (placings == 4 && empty > MOST_EMPTY_FOR_FOUR) {
            return false;
        }
        return stage != OVER;
    }

    private int bestPiece(int placings) {
        int goal = worthToGive(placings);
        int piece = 0;
        while (piece < COUNT - 1
                && (has(used, piece) || -worthToPlace(piece, placings) != goal)) {
            piece++;
        }
        return piece;
    }

    private int bestSquare(int placings) {
        int goal = worthToPlace(held, placings);
        int square = 0;
        while (square < COUNT - 1
                && (has(filled, square) || worthAfterPlacing(square, placings) != goal)) {
            square++;
        }
        return square;
    }

    private int worthAfterPlacing(int square, int placings) {
        if (has(winningSquares(held), square)) {
            return 1;
        }
        put(held, square);
        int worth = worthToGive(placings - 1);
        lift(held, square);
        return worth;
    }

    private int worthToGive(int placings) {
        if (giverWins(placings)) {
            return 1;
        }
        return giverLoses(placings) ? -1 : 0;
    }

    private int worthToPlace(int piece, int placings) {
        if (winningSquares(piece) != 0 || placerWinsLater(piece, placings)) {
            return 1;
        }
        return placerLoses(piece, placings) ? -1 : 0;
    }

    // The giver places second, the placer first and third: with fewer placings there is no win.

    private boolean giverWins(int placings) {
        if (placings < 2) {
            return false;
        }
        int pieces = safePieces();
        for (int piece = 0; piece < COUNT; piece++) {
            if (has(pieces, piece) && placerLoses(piece, placings)) {
                return true;
            }
        }
        return false;
    }

    /** A full board is nobody's win, though no piece on it is safe. */
    private boolean giverLoses(int placings) {
        if (placings < 1 || filled == ALL) {
            return false;
        }
        int pieces = safePieces();
        for (int piece = 0; piece < COUNT; piece++) {
            if (has(pieces, piece) && !placerWinsLater(piece, placings)) {
                return false;
            }
        }
        return true;
    }

    /** Of a piece that does not win at once. */
    private boolean placerWinsLater(int piece, int placings) {
        if (placings < 3) {
            return false;
        }
        for (int square = 0; square < COUNT; square++) {
            if (!has(filled, square)) {
                put(piece, square);
                boolean wins = giverWins(placings - 1);
                lift(piece, square);
                if (wins) {
                    return true;
                }
            }
        }
        return false;
    }

    /** Of a piece that does not win at once. */
    private boolean placerLoses(int piece, int placings) {
        if (placings < 2) {
            return false;
        }
        for (int square = 0; square < COUNT; square++) {
            if (!has(filled, square)) {
                put(piece, square);
                boolean loses = giverLoses(placings - 1);
                lift(piece, square);
                if (!loses) {
                    return false;
                }
            }
        }
        return true;
    }

    // ---- turning and renaming

    /** Where a square goes by one of the 8 turns and reflections. */
    private static int turnedSquare(int square, int turn) {
        int row = square / 4;
        int column = square % 4;
        if ((turn & 1) != 0) {
            int swapped = row;
            row = column;
            column = swapped;
        }
        if ((turn & 2) != 0) {
            row = 3 - row;
        }
        if ((turn & 4) != 0) {
            column = 3 - column;
        }
        return 4 * row + column;
    }

    /** Turns the four sets of squares in a long at once. */
    private static long turned(long sets, int turn) {
        long result = 0L;
        for (int square = 0; square < COUNT; square++) {
            result |= ((sets >>> square) & EACH_MARK) << turnedSquare(square, turn);
        }
        return result;
    }

    /**
     * Exchanges digits so that the piece on the lowest of the squares has only zeros: what is left
     * to compare is the same for all exchanges.
     */
    private static long levelled(long boardDigits, int squares) {
        int lowest = squares & -squares;
        long result = boardDigits;
        for (int mark = 0; mark < MARKS; mark++) {
            if ((withOne(boardDigits, mark) & lowest) != 0) {
                result ^= (long) squares << (COUNT * mark);
            }
        }
        return result;
    }

    /** In how many ways of the marks the board, turned, becomes the other board. */
    private int waysOfMarks(int turn, int otherFilled, long otherDigits) {
        if ((int) turned(filled, turn) != otherFilled) {
            return 0;
        }
        if (otherFilled == 0) {
            return WAYS_OF_MARKS;
        }
        long mine = levelled(turned(digits, turn), otherFilled);
        long other = levelled(otherDigits, otherFilled);
        int ways = 1;
        for (int mark = 0; mark < MARKS; mark++) {
            int ones = withOne(mine, mark);
            // An equal mark before this one has taken one of the marks that this one could become.
            ways *= equalMarks(other, MARKS, ones) - equalMarks(mine, mark, ones);
        }
        return ways;
    }

    /** How many of the first marks have the digit 1 on these squares and on no other. */
    private static int equalMarks(long boardDigits, int marks, int ones) {
        int equal = 0;
        for (int mark = 0; mark < marks; mark++) {
            if (withOne(boardDigits, mark) == ones) {
                equal++;
            }
        }
        return equal;
    }
}
