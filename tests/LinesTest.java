/** Promises 11 to 13: the lines, and what stands on them. */
public final class LinesTest {
    private static final Check CHECK = new Check();

    private static void promise11Lines() {
        Quarterboard game = new Quarterboard();
        CHECK.equal("lines of a new object", game.lines(), 10);
        game.begin(true);
        CHECK.equal("lines with blocks", game.lines(), 19);
        Games.play(game, 0, 0, 1, 1, 2, 2, 4, 3);
        CHECK.equal("lines with blocks, when it is over", game.lines(), 19);
        game.begin(false);
        CHECK.equal("lines without blocks", game.lines(), 10);
    }

    /** A piece on each square by itself: it is on the lines that have the square. */
    private static void promise12OnLine() {
        for (int square = 0; square < 16; square++) {
            Quarterboard game = Games.game(true, square, square);
            for (int line = 0; line < 19; line++) {
                int due = 0;
                for (int other : Games.squaresOf(line)) {
                    due += other == square ? 1 : 0;
                }
                CHECK.equal("square " + square + " on line " + line, game.onLine(line), due);
            }
        }
        Quarterboard game = Games.game(true, 0, 0, 15, 1, 5, 2);
        game.give(10);
        CHECK.equal("onLine with three", game.onLine(0), 3);
        game.place(3);
        CHECK.equal("onLine with four", game.onLine(0), 4);
        CHECK.noPlace("onLine(-1)", () -> game.onLine(-1));
        CHECK.noPlace("onLine(19)", () -> game.onLine(19));
        CHECK.equal("onLine(18)", game.onLine(18), 0);
        game.begin(false);
        CHECK.equal("onLine(9)", game.onLine(9), 0);
        CHECK.noPlace("onLine(10) without blocks", () -> game.onLine(10));
        CHECK.noPlace("onLine(18) without blocks", () -> game.onLine(18));
        CHECK.noPlace("onLine(most)", () -> game.onLine(Integer.MAX_VALUE));
    }

    private static void promise13Shared() {
        Quarterboard game = Games.game(true);
        for (int line = 0; line < 19; line++) {
            CHECK.equal("shared without pieces " + line, game.shared(line), 255);
        }
        for (int piece = 0; piece < 16; piece++) {
            Quarterboard one = Games.game(false, piece, 6);
            CHECK.equal("shared by piece " + piece, one.shared(9), piece + 16 * (15 - piece));
            CHECK.equal("shared on another line", one.shared(8), 255);
        }
        Games.play(game, 12, 4, 13, 5);
        CHECK.equal("shared by 12 and 13", game.shared(1), 0b0010_1100);
        game.give(15);
        CHECK.equal("the hand does not matter", game.shared(1), 0b0010_1100);
        game.place(6);
        CHECK.equal("shared by 12, 13 and 15", game.shared(1), 0b0000_1100);
        CHECK.equal("shared in the block", game.shared(10), 0b0010_1100);
        Games.play(game, 2, 7);
        CHECK.equal("shared by nothing", game.shared(1), 0);
        CHECK.equal("shared in the block by 15 and 2", game.shared(12), 0b0000_0010);
        CHECK.noPlace("shared(-1)", () -> game.shared(-1));
        CHECK.noPlace("shared(19)", () -> game.shared(19));
        game.begin(false);
        CHECK.equal("shared(9)", game.shared(9), 255);
        CHECK.noPlace("shared(10) without blocks", () -> game.shared(10));
        CHECK.noPlace("shared(least)", () -> game.shared(Integer.MIN_VALUE));
    }

    public static void main(String[] args) {
        promise11Lines();
        promise12OnLine();
        promise13Shared();
        CHECK.end();
    }
}
