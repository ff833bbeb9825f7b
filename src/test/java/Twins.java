import java.util.function.Consumer;
import java.util.function.ToIntFunction;

/** Two objects made by the same calls: one refuses a call, of which the other never hears; then all else is alike. */
final class Twins {
    private static final int SAMPLE = 6;
    private static final int MANY = 15;

    private final Checks c;
    private final String refused;
    private final Subject x = new Subject();
    private final Subject y = new Subject();

    private Twins(Checks c, String refused) {
        this.c = c;
        this.refused = refused;
    }

    /** An object so made gives a call this answer, and is as if it had not been called. */
    static void refuse(Checks c, String call, int due, Consumer<Subject> making, ToIntFunction<Subject> refused) {
        Twins twins = new Twins(c, call);
        making.accept(twins.x);
        making.accept(twins.y);
        c.due(call, refused.applyAsInt(twins.x), due);
        twins.compare();
    }

    /** The same, for an object that has something of all sorts. */
    static void refuse(Checks c, String call, int due, ToIntFunction<Subject> refused) {
        refuse(c, call, due, Twins::ofAllSorts, refused);
    }

    /** Texts 0 .. 2, copy 1, replace 2, phrases 1, 2, 3 of kinds 0, 1, 2, and a run. */
    static void ofAllSorts(Subject x) {
        x.libraries(2);
        x.tell(1, "a . ab *");
        x.copy(0, 1, true);
        x.replace(0);
        x.tell(0, "ac cb");
        x.off(0);
        x.tell(0, "d");
        x.phrase(1, 0, "a", "e . f");
        x.phrase(2, 1, "a", "g");
        x.phrase(2, 2, "b", "");
        x.run();
    }

    private void compare() {
        compareLatest();
        compareSizes();
        compareRun();
        comparePhrases();
        same("replace(0)", s -> s.replace(0));
        same("copy(0, 2)", s -> s.copy(0, 2));
        same("off(0)", s -> s.off(0));
        same("library(2)", s -> s.library(2));
        compareRun();
    }

    /** What is asked of one must leave calls for the rest; so no more is asked than both have left. */
    private void same(String call, ToIntFunction<Subject> asked) {
        if (x.callsLeft() > 0 && y.callsLeft() > 0) {
            c.due("behind " + refused + ", " + call, asked.applyAsInt(x), asked.applyAsInt(y));
        }
    }

    private void compareRun() {
        same("run()", Subject::run);
        compareLatest();
    }

    private void compareLatest() {
        for (int k = 0; k <= 4; k++) {
            int what = k;
            same("count(" + what + ")", s -> s.count(what));
        }
        for (int k = 0; k < SAMPLE; k++) {
            int i = k;
            same("ring(" + i + ")", s -> s.ring(i));
            same("at(" + i + ")", s -> s.at(i));
            for (int what = 0; what <= 4; what++) {
                int asked = what;
                same("place(" + i + ", " + asked + ")", s -> s.place(i, asked));
            }
        }
    }

    private void compareSizes() {
        for (int k = 0; k <= 13; k++) {
            int text = k;
            same("word(" + text + ", 1)", s -> s.word(text, 1));
        }
    }

    private void comparePhrases() {
        for (int k = 1; k <= MANY; k++) {
            int number = k;
            same("from(" + number + ", 17)", s -> s.from(number, 17));
            same("to(" + number + ", 17)", s -> s.to(number, 17));
            same("phrase(" + number + ", 0, 17)", s -> s.phrase(number, 0, 17));
        }
    }
}
