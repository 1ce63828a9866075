import java.util.ArrayList;
import java.util.List;

/** Every answer that an object gives, as text, so that two objects can be compared. */
final class Snapshot {
    private final FluxModeEnumerator x;
    private final int reactions;
    private final List<String> answers = new ArrayList<>();

    private Snapshot(FluxModeEnumerator x, int reactions) {
        this.x = x;
        this.reactions = reactions;
    }

    /** The answers to all questions; the object stays as it is, if questions keep their promise. */
    static List<String> ofQuestions(FluxModeEnumerator x, int substances, int reactions) {
        Snapshot snapshot = new Snapshot(x, reactions);
        snapshot.askTable(substances);
        snapshot.askModes();
        snapshot.askReactions();
        return snapshot.answers;
    }

    /** Which reactions are two-way and which are on; only a change tells it, so the object is used up. */
    static List<String> ofWays(FluxModeEnumerator x, int reactions) {
        Snapshot snapshot = new Snapshot(x, reactions);
        for (int j = 0; j < reactions; j++) {
            snapshot.note("twoWay " + j, x.twoWay(j, 1));
            snapshot.note("turn " + j, x.turn(j, 1));
        }
        int count = x.modes();
        snapshot.note("modes with all two-way and on", count);
        for (int i = 0; i < count; i++) {
            snapshot.note("support " + i + " with all two-way and on", x.support(i));
        }
        return snapshot.answers;
    }

    private void note(String question, int answer) {
        answers.add(question + " = " + answer);
    }

    private void askTable(int substances) {
        for (int s = 0; s < substances; s++) {
            for (int j = 0; j < reactions; j++) {
                note("get " + s + " " + j, x.get(s, j));
            }
        }
    }

    private void askModes() {
        int count = x.modes();
        note("modes", count);
        for (int i = 0; i < count; i++) {
            int support = x.support(i);
            note("support " + i, support);
            note("find " + support, x.find(support));
            note("turnable " + i, x.turnable(i));
            for (int j = 0; j < reactions; j++) {
                note("flux " + i + " " + j, x.flux(i, j));
            }
        }
    }

    private void askReactions() {
        for (int j = 0; j < reactions; j++) {
            note("carries on " + j, x.carries(j, 1));
            note("carries back " + j, x.carries(j, -1));
            note("without " + j, x.without(j));
            note("cutSize " + j, x.cutSize(j));
            for (int k = 0; k < reactions; k++) {
                note("coupled " + j + " " + k, x.coupled(j, k));
                note("yieldTop " + j + " " + k, x.yieldTop(j, k));
                note("yieldBottom " + j + " " + k, x.yieldBottom(j, k));
            }
        }
    }
}
