import java.util.Arrays;

/** The document said over again in the slowest and plainest way, to compare the class with. */
final class SlowGame {
    final int[] board = new int[16];
    int[] kept = null;
    boolean hasBlocks = false;
    int phase = 0;
    int player = 0;
    int hand = -1;
    int winner = -1;

    SlowGame() {
        Arrays.fill(board, -1);
    }

    int begin(boolean blocks) {
        int before = placed();
        Arrays.fill(board, -1);
        hasBlocks = blocks;
        phase = 0;
        player = 0;
        hand = -1;
        winner = -1;
        return before;
    }

    int give(int piece) {
        needNumber(piece, 16);
        if (phase != 0 || isOnBoard(piece)) {
            throw new IllegalStateException();
        }
        hand = piece;
        player = 1 - player;
        phase = 1;
        return player;
    }

    int place(int square) {
        needNumber(square, 16);
        if (phase != 1 || board[square] >= 0) {
            throw new IllegalStateException();
        }
        board[square] = hand;
        hand = -1;
        int won = wonLines();
        if (won > 0) {
            phase = 2;
            winner = player;
        } else if (placed() == 16) {
            phase = 2;
            winner = 2;
        } else {
            phase = 0;
        }
        return won;
    }

    int pieceAt(int square) {
        needNumber(square, 16);
        return board[square];
    }

    int placed() {
        int count = 0;
        for (int piece : board) {
            if (piece >= 0) {
                count++;
            }
        }
        return count;
    }

    int lines() {
        return hasBlocks ? 19 : 10;
    }

    int onLine(int line) {
        needNumber(line, lines());
        int count = 0;
        for (int square : squaresOf(line)) {
            if (board[square] >= 0) {
                count++;
            }
        }
        return count;
    }

    int shared(int line) {
        needNumber(line, lines());
        int set = 0;
        for (int mark = 0; mark < 4; mark++) {
            for (int digit = 0; digit <= 1; digit++) {
                boolean all = true;
                for (int square : squaresOf(line)) {
                    if (board[square] >= 0 && digit(board[square], mark) != digit) {
                        all = false;
                    }
                }
                if (all) {
                    set |= 1 << (digit == 1 ? mark : mark + 4);
                }
            }
        }
        return set;
    }

    int winning(int piece) {
        needNumber(piece, 16);
        if (phase == 2 || isOnBoard(piece)) {
            throw new IllegalStateException();
        }
        int set = 0;
        for (int square = 0; square < 16; square++) {
            if (board[square] < 0) {
                board[square] = piece;
                if (wonLines() > 0) {
                    set |= 1 << square;
                }
                board[square] = -1;
            }
        }
        return set;
    }

    int safe() {
        if (phase != 0) {
            throw new IllegalStateException();
        }
        int set = 0;
        for (int piece = 0; piece < 16; piece++) {
            if (!isOnBoard(piece) && winning(piece) == 0) {
                set |= 1 << piece;
            }
        }
        return set;
    }

    int worth(int placings) {
        needLookAhead(placings);
        return phase == 0 ? worthToGive(placings) : worthToPlace(hand, placings);
    }

    int best(int placings) {
        needLookAhead(placings);
        int goal = worth(placings);
        for (int number = 0; number < 16; number++) {
            if (phase == 0 && !isOnBoard(number) && -worthToPlace(number, placings) == goal) {
                return number;
            }
            if (phase == 1 && board[number] < 0 && worthAfter(hand, number, placings) == goal) {
                return number;
            }
        }
        throw new AssertionError("no choice reaches the worth");
    }

    int keep() {
        kept = board.clone();
        return placed();
    }

    boolean isAlike() {
        if (kept == null) {
            throw new IllegalStateException();
        }
        return ways(kept) > 0;
    }

    int symmetries() {
        return ways(board);
    }

    private static void needNumber(int number, int end) {
        if (number < 0 || number >= end) {
            throw new IndexOutOfBoundsException();
        }
    }

    private void needLookAhead(int placings) {
        if (placings < 1 || placings > 4) {
            throw new IllegalArgumentException();
        }
        int empty = 16 - placed();
        if (phase == 2 || placings == 3 && empty > 8 || placings == 4 && empty > 6) {
            throw new IllegalStateException();
        }
    }

    private boolean isOnBoard(int piece) {
        for (int other : board) {
            if (other == piece) {
                return true;
            }
        }
        return false;
    }

    private static int digit(int piece, int mark) {
        return piece / (mark == 0 ? 1 : mark == 1 ? 2 : mark == 2 ? 4 : 8) % 2;
    }

    private static int[] squaresOf(int line) {
        if (line < 4) {
            return new int[] {4 * line, 4 * line + 1, 4 * line + 2, 4 * line + 3};
        }
        if (line < 8) {
            return new int[] {line - 4, line, line + 4, line + 8};
        }
        if (line == 8) {
            return new int[] {0, 5, 10, 15};
        }
        if (line == 9) {
            return new int[] {3, 6, 9, 12};
        }
        int corner = 4 * ((line - 10) / 3) + (line - 10) % 3;
        return new int[] {corner, corner + 1, corner + 4, corner + 5};
    }

    private int wonLines() {
        int won = 0;
        for (int line = 0; line < lines(); line++) {
            if (onLine(line) == 4 && shared(line) != 0) {
                won++;
            }
        }
        return won;
    }

    /** No line is won on the board yet. */
    private int worthToGive(int placings) {
        int most = -1;
        for (int piece = 0; piece < 16 && most < 1; piece++) {
            if (!isOnBoard(piece)) {
                most = Math.max(most, -worthToPlace(piece, placings));
            }
        }
        return most;
    }

    private int worthToPlace(int piece, int placings) {
        int most = -1;
        for (int square = 0; square < 16 && most < 1; square++) {
            if (board[square] < 0) {
                most = Math.max(most, worthAfter(piece, square, placings));
            }
        }
        return most;
    }

    private int worthAfter(int piece, int square, int placings) {
        board[square] = piece;
        int worth;
        if (wonLines() > 0) {
            worth = 1;
        } else if (placings == 1 || placed() == 16) {
            worth = 0;
        } else {
            worth = worthToGive(placings - 1);
        }
        board[square] = -1;
        return worth;
    }

    /** Tries all 8 * 384 ways, one by one. */
    private int ways(int[] goal) {
        int ways = 0;
        for (int turn = 0; turn < 8; turn++) {
            int[] turned = turned(turn);
            for (int names = 0; names < 256; names++) {
                if (!isRenaming(names)) {
                    continue;
                }
                for (int exchanged = 0; exchanged < 16; exchanged++) {
                    if (becomes(turned, names, exchanged, goal)) {
                        ways++;
                    }
                }
            }
        }
        return ways;
    }

    /** A quarter turn so many times, and from 4 on a reflection before. */
    private int[] turned(int turn) {
        int[] now = board.clone();
        if (turn >= 4) {
            int[] before = now.clone();
            for (int square = 0; square < 16; square++) {
                now[square / 4 * 4 + 3 - square % 4] = before[square];
            }
        }
        for (int quarter = 0; quarter < turn % 4; quarter++) {
            int[] before = now.clone();
            for (int square = 0; square < 16; square++) {
                now[square % 4 * 4 + 3 - square / 4] = before[square];
            }
        }
        return now;
    }

    private static int nameOf(int names, int mark) {
        return names >> 2 * mark & 3;
    }

    private static boolean isRenaming(int names) {
        int seen = 0;
        for (int mark = 0; mark < 4; mark++) {
            seen |= 1 << nameOf(names, mark);
        }
        return seen == 15;
    }

    private static boolean becomes(int[] from, int names, int exchanged, int[] goal) {
        for (int square = 0; square < 16; square++) {
            int piece = from[square];
            if (piece >= 0) {
                int renamed = 0;
                for (int mark = 0; mark < 4; mark++) {
                    renamed += digit(piece, mark) << nameOf(names, mark);
                }
                piece = renamed ^ exchanged;
            }
            if (piece != goal[square]) {
                return false;
            }
        }
        return true;
    }
}
