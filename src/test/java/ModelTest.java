import java.util.Random;
import java.util.TreeMap;

/** Runs of calls by a fixed seed, each answered by the class as by the model. */
public final class ModelTest {
    private static final int OBJECTS = 4000;
    private static final int CALLS = 512;

    private final Checks c;
    private final Random random;
    private final CopyReplace x = new CopyReplace();
    private final Model m = new Model();
    private final int object;
    private final boolean forward;
    private final int wrongPercent;
    private final int letters;
    private int calls = 0;
    private int longest = 0;

    private ModelTest(Checks c, int object) {
        this.c = c;
        this.object = object;
        this.random = new Random(object);
        this.forward = random.nextInt(4) > 0;
        this.wrongPercent = random.nextInt(3) * 3;
        this.letters = 1 + random.nextInt(3);
    }

    public static void main(String[] args) {
        Checks c = new Checks();
        TreeMap<String, Integer> answers = new TreeMap<>();
        for (int object = 1; object <= OBJECTS; object++) {
            new ModelTest(c, object).play(answers);
        }
        System.out.println("runs by their answers: " + answers);
        // Were one of these never reached, the comparison would say nothing of it.
        for (String kind : new String[] {"row", "ring", "no text", "too much", "too long a word", "long row"}) {
            c.due("runs that end by " + kind, answers.getOrDefault(kind, 0) > 20 ? 1 : 0, 1);
        }
        c.end();
    }

    private void play(TreeMap<String, Integer> answers) {
        int libraries = random.nextInt(13);
        for (int i = 0; i < libraries; i++) {
            library(forward ? i + 1 : random.nextInt(8));
        }
        int runEvery = 20 + random.nextInt(200);
        while (calls < CALLS) {
            if (random.nextInt(runEvery) == 0 || calls == CALLS - 60) {
                run(answers);
            } else {
                tell();
            }
        }
    }

    private void run(TreeMap<String, Integer> answers) {
        int want = m.run();
        same("run()", x.run(), want);
        String kind = want >= 250 ? "long row" : want >= 0 ? "row" : want == -1 ? "ring" : want <= -10 ? "no text"
                : want == -3 ? "too much" : "too long a word";
        answers.merge(kind, 1, Integer::sum);
        longest = Math.max(want, 1);
        for (int k = 0; k < 25 && calls < CALLS; k++) {
            read();
        }
    }

    private void tell() {
        int text = text();
        int sort = random.nextInt(40);
        if (sort < 14 || sort < 20 && hasNoneToCopy(text)) {
            int w = item();
            same("word(" + text + ", " + w + ")", x.word(text, w), m.word(text, w));
        } else if (sort < 20) {
            int name = name(text);
            boolean suppressed = random.nextInt(3) == 0;
            same("copy(" + text + ", " + name + ", " + suppressed + ")", x.copy(text, name, suppressed),
                    m.copy(text, name, suppressed));
        } else if (sort < 22) {
            same("replace(" + text + ")", x.replace(text), m.replace(text));
        } else if (sort < 23) {
            same("off(" + text + ")", x.off(text), m.off(text));
        } else if (sort < 28) {
            int statement = oneOf(m.count(1));
            int kind = wrong() ? random.nextInt(7) - 2 : random.nextInt(3);
            int w = wrong() ? item() : word();
            same("phrase(" + statement + ", " + kind + ", " + w + ")", x.phrase(statement, kind, w),
                    m.phrase(statement, kind, w));
        } else if (sort < 30) {
            int p = oneOf(m.count(2));
            int w = item();
            same("from(" + p + ", " + w + ")", x.from(p, w), m.from(p, w));
        } else if (sort < 38) {
            int p = oneOf(m.count(2));
            int w = item();
            same("to(" + p + ", " + w + ")", x.to(p, w), m.to(p, w));
        } else if (sort < 39 && random.nextInt(10) == 0) {
            library(wrong() ? random.nextInt(300) - 100 : forward ? m.count(0) + 1 : random.nextInt(20));
        } else {
            read();
        }
    }

    private void read() {
        int i = wrong() ? random.nextInt(700) - 200 : random.nextInt(longest + 1);
        int what = wrong() ? random.nextInt(12) - 3 : random.nextInt(5);
        switch (random.nextInt(8)) {
            case 0:
                int at = random.nextInt(14) - 1;
                same("ring(" + at + ")", x.ring(at), m.ring(at));
                break;
            case 1:
                same("count(" + what + ")", x.count(what), m.count(what));
                break;
            case 2:
            case 3:
                if (m.has(i)) {
                    same("at(" + i + ")", x.at(i), m.at(i));
                } else {
                    c.noneAt("object " + object + ", call " + calls, x, i);
                    calls++;
                }
                break;
            default:
                same("place(" + i + ", " + what + ")", x.place(i, what), m.place(i, what));
        }
    }

    private void library(int name) {
        same("library(" + name + ")", x.library(name), m.library(name));
    }

    private void same(String call, int got, int want) {
        calls++;
        c.due("object " + object + ", call " + calls + ": " + call, got, want);
    }

    private boolean wrong() {
        return random.nextInt(100) < wrongPercent;
    }

    private int text() {
        if (wrong()) {
            return random.nextInt(20) - 4;
        }
        return random.nextInt(3) == 0 ? 0 : random.nextInt(m.count(0) + 1);
    }

    private boolean hasNoneToCopy(int text) {
        return forward && text == m.count(0) && random.nextInt(1000) > 0;
    }

    /** In forward runs a text copies later ones alone, so that few of them end in a ring. */
    private int name(int text) {
        if (wrong()) {
            return random.nextInt(300) - 100;
        }
        int libraries = m.count(0);
        if (forward && text >= 0 && text < libraries) {
            return text + 1 + random.nextInt(libraries - text);
        }
        return random.nextInt(random.nextInt(10) == 0 ? 10 : libraries + 1);
    }

    private int oneOf(int count) {
        if (wrong() || count == 0) {
            return random.nextInt(120) - 5;
        }
        return count - random.nextInt(Math.min(count, 12));
    }

    private int item() {
        int sort = random.nextInt(100);
        if (wrong()) {
            return random.nextInt(2) == 0 ? random.nextInt() : random.nextInt(1000) - 10;
        }
        return sort < 12 ? 0 : sort < 20 ? -1 : word();
    }

    private int word() {
        int length = random.nextInt(3) > 0 ? 1 + random.nextInt(2) : 1 + random.nextInt(random.nextInt(5) == 0 ? 6 : 4);
        int w = 0;
        for (int k = 0; k < length; k++) {
            w = w * 27 + 1 + (random.nextInt(40) == 0 ? random.nextInt(26) : random.nextInt(letters));
        }
        return w;
    }
}
