import java.util.ArrayList;
import java.util.List;

/** All that can be seen of an object: what every call that asks answers, its tokens, and what is set. */
final class Everything {
    static final int MOST_CALLS = 280;

    private final List<String> questions = new ArrayList<>();
    private final List<Integer> answers = new ArrayList<>();

    /** Takes the text off at the end. */
    Everything(LittleCompiler x) {
        note("tokens", x.tokens());
        note("wrongAt", x.wrongAt());
        note("fault", x.fault());
        note("run", x.run());
        note("outs", x.outs());
        note("turns", x.turns());
        note("deepest", x.deepest());
        note("plainSize", x.plainSize());
        for (int k = -1; k <= 20; k++) {
            note("output " + k, x.output(k));
        }
        for (int g = -1; g <= 8; g++) {
            note("global " + g, x.global(g));
        }
        for (int i = -1; i <= 16; i++) {
            note("cellAfter " + i, x.cellAfter(i));
        }
        int shown = Math.min(x.plainSize(), 40);
        for (int i = -1; i <= shown; i++) {
            note("plain " + i, x.plain(i));
        }
        takeOff(x);
        showWhatIsSet(x);
    }

    private void note(String question, int answer) {
        questions.add(question);
        answers.add(answer);
    }

    private void takeOff(LittleCompiler x) {
        for (int i = x.tokens(); i >= 0; i--) {
            note("untoken at " + i, x.untoken());
        }
    }

    private void showWhatIsSet(LittleCompiler x) {
        note("begin end", x.four(171, 163, -1, -1));
        for (int g = 0; g < 8; g++) {
            note("global " + g + " as set", x.global(g));
        }
        for (int i = 0; i < 16; i++) {
            note("cell " + i + " as set", x.cellAfter(i));
        }
    }

    /** The first question that the other answers otherwise, or "" if there is none. */
    String differenceFrom(Everything other) {
        if (!questions.equals(other.questions)) {
            return "the number of tokens";
        }
        for (int i = 0; i < answers.size(); i++) {
            int mine = answers.get(i);
            int theirs = other.answers.get(i);
            if (mine != theirs) {
                return questions.get(i) + ": " + mine + " and not " + theirs;
            }
        }
        return "";
    }
}
