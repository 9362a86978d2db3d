import java.util.ArrayList;
import java.util.List;

/** All that an object answers without being changed: 85 calls. */
final class Answers {
    interface Call {
        long get();
    }

    private final List<String> names = new ArrayList<>();
    private final List<Call> calls = new ArrayList<>();

    Answers(Quarterboard game) {
        add("phase()", game::phase);
        add("onTurn()", game::onTurn);
        add("hand()", game::hand);
        add("placed()", game::placed);
        add("winner()", game::winner);
        add("lines()", game::lines);
        for (int n = 0; n < 16; n++) {
            int number = n;
            add("pieceAt(" + n + ")", () -> game.pieceAt(number));
            add("winning(" + n + ")", () -> game.winning(number));
        }
        for (int n = 0; n < 19; n++) {
            int line = n;
            add("onLine(" + n + ")", () -> game.onLine(line));
            add("shared(" + n + ")", () -> game.shared(line));
        }
        add("safe()", game::safe);
        for (int n = 1; n <= 4; n++) {
            int placings = n;
            add("worth(" + n + ")", () -> game.worth(placings));
            add("best(" + n + ")", () -> game.best(placings));
        }
        add("isAlike()", () -> game.isAlike() ? 1 : 0);
        add("symmetries()", game::symmetries);
    }

    private void add(String name, Call call) {
        names.add(name);
        calls.add(call);
    }

    int count() {
        return calls.size();
    }

    String name(int which) {
        return names.get(which);
    }

    /** The answer, or the name of what is thrown. */
    String answer(int which) {
        try {
            return "" + calls.get(which).get();
        } catch (RuntimeException e) {
            return e.getClass().getSimpleName();
        }
    }

    static String of(Quarterboard game) {
        Answers answers = new Answers(game);
        StringBuilder told = new StringBuilder();
        for (int i = 0; i < answers.count(); i++) {
            told.append(answers.name(i)).append('=').append(answers.answer(i)).append(' ');
        }
        return told.toString();
    }
}
