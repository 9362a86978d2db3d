/**
 * Terms, on exceptions: each call that takes a number, with numbers in and out of its range, in a
 * position of every kind.
 */
public final class RefusedTest {
    private static final Check CHECK = new Check();

    private static final Class<?> NO_PLACE = IndexOutOfBoundsException.class;
    private static final Class<?> NO_ARGUMENT = IllegalArgumentException.class;
    private static final Class<?> NOT_NOW = IllegalStateException.class;

    /** The edges of all ranges, and numbers that a shift or a cast would wrap into a range. */
    private static final int[] NUMBERS = {
        Integer.MIN_VALUE, Integer.MIN_VALUE + 1, Integer.MIN_VALUE + 16, -65536, -65535, -256, -255,
        -65, -64, -49, -48, -33, -32, -31, -19, -18, -17, -16, -15, -11, -10, -9, -5, -4, -3, -2, -1,
        0, 1, 2, 3, 4, 5, 6, 7, 8, 9, 10, 11, 12, 13, 14, 15, 16, 17, 18, 19, 20,
        29, 30, 31, 32, 33, 34, 35, 36, 47, 48, 49, 63, 64, 65, 79, 80, 127, 128, 255, 256, 257, 260,
        32767, 32768, 65535, 65536, 65537, 65540, Integer.MAX_VALUE - 15, Integer.MAX_VALUE
    };

    private enum Asked {
        GIVE, PLACE, PIECE_AT, ON_LINE, SHARED, WINNING, SAFE, WORTH, BEST, IS_ALIKE,
        PHASE, ON_TURN, HAND, PLACED, WINNER, LINES, SYMMETRIES;

        boolean takesNumber() {
            return this == GIVE || this == PLACE || this == PIECE_AT || this == ON_LINE
                || this == SHARED || this == WINNING || this == WORTH || this == BEST;
        }

        void call(Quarterboard game, int number) {
            switch (this) {
                case GIVE: game.give(number); break;
                case PLACE: game.place(number); break;
                case PIECE_AT: game.pieceAt(number); break;
                case ON_LINE: game.onLine(number); break;
                case SHARED: game.shared(number); break;
                case WINNING: game.winning(number); break;
                case SAFE: game.safe(); break;
                case WORTH: game.worth(number); break;
                case BEST: game.best(number); break;
                case IS_ALIKE: game.isAlike(); break;
                case PHASE: game.phase(); break;
                case ON_TURN: game.onTurn(); break;
                case HAND: game.hand(); break;
                case PLACED: game.placed(); break;
                case WINNER: game.winner(); break;
                case LINES: game.lines(); break;
                default: game.symmetries(); break;
            }
        }

        /** What does not exist. */
        boolean hasNoPlace(Position position, int number) {
            switch (this) {
                case GIVE:
                case PLACE:
                case PIECE_AT:
                case WINNING:
                    return number < 0 || number > 15;
                case ON_LINE:
                case SHARED:
                    return number < 0 || number > (position.hasBlocks ? 18 : 9);
                default:
                    return false;
            }
        }

        /** Another argument out of range. */
        boolean hasNoArgument(int number) {
            return (this == WORTH || this == BEST) && (number < 1 || number > 4);
        }

        /** Not possible now; of a number that is in range. */
        boolean isNotNow(Position position, int number) {
            int empty = 16 - position.placed();
            switch (this) {
                case GIVE:
                    return position.phase != 0 || position.isOnBoard(number);
                case PLACE:
                    return position.phase != 1 || position.pieceAt(number) >= 0;
                case WINNING:
                    return position.phase == 2 || position.isOnBoard(number);
                case SAFE:
                    return position.phase != 0;
                case WORTH:
                case BEST:
                    return position.phase == 2 || number == 3 && empty > 8
                        || number == 4 && empty > 6;
                case IS_ALIKE:
                    return position.kept == null;
                default:
                    return false;
            }
        }

        Class<?> due(Position position, int number) {
            return hasNoPlace(position, number) ? NO_PLACE
                : hasNoArgument(number) ? NO_ARGUMENT
                : isNotNow(position, number) ? NOT_NOW
                : null;
        }
    }

    interface OfCall {
        void check(Position position, Asked asked, int number, Class<?> due);
    }

    private static void forEachCall(OfCall of) {
        for (Position position : Position.values()) {
            for (Asked asked : Asked.values()) {
                for (int number : asked.takesNumber() ? NUMBERS : new int[1]) {
                    of.check(position, asked, number, asked.due(position, number));
                }
            }
        }
    }

    private static String told(Position position, Asked asked, int number) {
        return position + ": " + asked + "(" + (asked.takesNumber() ? number : "") + ")";
    }

    private static void eachExceptionWhereItIsDue() {
        CHECK.sentence("Terms", "IndexOutOfBoundsException is thrown for a square, line or piece that"
            + " does not exist, IllegalArgumentException for another argument out of range, and"
            + " IllegalStateException if a call is not possible now.");
        int[] met = new int[4];
        forEachCall((position, asked, number, due) -> {
            Quarterboard game = position.make();
            CHECK.fails(told(position, asked, number), due, () -> asked.call(game, number));
            met[due == NO_PLACE ? 1 : due == NO_ARGUMENT ? 2 : due == NOT_NOW ? 3 : 0]++;
        });
        CHECK.equal("all are met", met[0] > 0 && met[1] > 0 && met[2] > 0 && met[3] > 0, true);
    }

    private static void whichGoesFirst() {
        CHECK.sentence("Terms", "If several apply, IndexOutOfBoundsException goes first, then"
            + " IllegalArgumentException.");
        for (int outside : new int[] {-1, 16, 32}) {
            for (Position position : Position.values()) {
                Quarterboard game = position.make();
                String at = "(" + outside + ") in " + position;
                if (position.phase != 0) {
                    CHECK.noPlace("give" + at, () -> game.give(outside));
                }
                if (position.phase != 1) {
                    CHECK.noPlace("place" + at, () -> game.place(outside));
                }
                if (position.phase == 2) {
                    CHECK.noPlace("winning" + at, () -> game.winning(outside));
                }
            }
        }
        for (int outside : new int[] {0, 5}) {
            for (Position position : Position.values()) {
                Quarterboard game = position.make();
                String at = "(" + outside + ") in " + position;
                if (position.phase == 2 || position.placed() < 8) {
                    CHECK.noArgument("worth" + at, () -> game.worth(outside));
                    CHECK.noArgument("best" + at, () -> game.best(outside));
                }
            }
        }
    }

    /** An object that was called, and one that was not, answer the same now and later. */
    private static void nothingChanges() {
        CHECK.sentence("Terms", "A call that throws an exception changes nothing.");
        for (Position position : Position.values()) {
            Quarterboard untouched = position.make();
            String now = Answers.of(untouched);
            String later = later(untouched, position);
            forEachCall((other, asked, number, due) -> {
                if (other == position && due != null) {
                    Quarterboard game = position.make();
                    Check.thrownBy(() -> asked.call(game, number));
                    String what = "after " + told(position, asked, number);
                    CHECK.equal(what, Answers.of(game), now);
                    CHECK.equal(what + ", later", later(game, position), later);
                }
            });
        }
    }

    /** Nothing is said of a change by a call that only answers. */
    private static void answersChangeNothing() {
        CHECK.sentence("Not promised", "Nothing is promised beyond the answers and state changes"
            + " described above, and nothing about an object after its 512th call.");
        for (Position position : Position.values()) {
            Quarterboard untouched = position.make();
            String now = Answers.of(untouched);
            String later = later(untouched, position);
            forEachCall((other, asked, number, due) -> {
                if (other == position && due == null && asked != Asked.GIVE && asked != Asked.PLACE) {
                    Quarterboard game = position.make();
                    asked.call(game, number);
                    String what = "after " + told(position, asked, number);
                    CHECK.equal(what, Answers.of(game), now);
                    CHECK.equal(what + ", later", later(game, position), later);
                }
            });
        }
    }

    /** Goes on with the game, then looks for the kept board again. */
    private static String later(Quarterboard game, Position position) {
        StringBuilder told = new StringBuilder();
        if (position.phase == 1) {
            int square = 0;
            while (position.pieceAt(square) >= 0) {
                square++;
            }
            told.append(game.place(square));
        }
        if (game.phase() == 0) {
            int piece = 15;
            while (position.isOnBoard(piece) || piece == position.hand()) {
                piece--;
            }
            told.append(' ').append(game.give(piece));
        }
        told.append(' ').append(Answers.of(game)).append(game.begin(false));
        if (position.kept != null) {
            Games.play(game, position.kept);
            told.append(' ').append(game.isAlike());
        }
        return told.append(' ').append(game.keep()).toString();
    }

    public static void main(String[] args) {
        eachExceptionWhereItIsDue();
        whichGoesFirst();
        nothingChanges();
        answersChangeNothing();
        CHECK.end();
    }
}
