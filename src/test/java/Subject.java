/** One object under test. Its calls are counted: no test may ask for more than the document allows. */
final class Subject {
    /** What at answers here if the call throws the very exception that the document names. */
    static final int THROWS = Integer.MIN_VALUE;
    private static final int MOST_CALLS = 512;

    private final CopyReplace x = new CopyReplace();
    private int calls = 0;

    private CopyReplace called() {
        calls++;
        if (calls > MOST_CALLS) {
            throw new IllegalStateException("the test makes a 513th call, whose answer is free");
        }
        return x;
    }

    int callsLeft() {
        return MOST_CALLS - calls;
    }

    int library(int name) {
        return called().library(name);
    }

    int word(int text, int w) {
        return called().word(text, w);
    }

    int copy(int text, int name, boolean suppressed) {
        return called().copy(text, name, suppressed);
    }

    int replace(int text) {
        return called().replace(text);
    }

    int off(int text) {
        return called().off(text);
    }

    int phrase(int statement, int kind, int w) {
        return called().phrase(statement, kind, w);
    }

    int from(int phrase, int w) {
        return called().from(phrase, w);
    }

    int to(int phrase, int w) {
        return called().to(phrase, w);
    }

    int run() {
        return called().run();
    }

    int at(int i) {
        CopyReplace asked = called();
        try {
            return asked.at(i);
        } catch (RuntimeException e) {
            if (e.getClass() == ArrayIndexOutOfBoundsException.class) {
                return THROWS;
            }
            throw e;
        }
    }

    int place(int i, int what) {
        return called().place(i, what);
    }

    int ring(int i) {
        return called().ring(i);
    }

    int count(int what) {
        return called().count(what);
    }

    /** So many libraries, named 1, 2 .. by their numbers. */
    void libraries(int many) {
        for (int name = 1; name <= many; name++) {
            library(name);
        }
    }

    /** Adds entries at a text's end, told by letters. */
    void tell(int text, String entries) {
        for (int w : Letters.entries(entries)) {
            word(text, w);
        }
    }

    /** Adds an entry at a text's end so many times. */
    void tell(int text, String entry, int times) {
        for (int i = 0; i < times; i++) {
            word(text, Letters.entry(entry));
        }
    }

    /** A copy that is not suppressed. */
    int copy(int text, int name) {
        return copy(text, name, false);
    }

    void copies(int text, int name, int times) {
        for (int i = 0; i < times; i++) {
            copy(text, name);
        }
    }

    /** A phrase of a statement, from and to what is told by letters. */
    int phrase(int statement, int kind, String from, String to) {
        int[] words = Letters.entries(from);
        int p = phrase(statement, kind, words[0]);
        for (int k = 1; k < words.length; k++) {
            from(p, words[k]);
        }
        for (int w : Letters.entries(to)) {
            to(p, w);
        }
        return p;
    }

    /** The row of the latest run, told by letters. */
    String row() {
        StringBuilder row = new StringBuilder();
        for (int i = 0; i <= 300; i++) {
            int w = at(i);
            if (w == THROWS) {
                return row.toString();
            }
            row.append(i == 0 ? "" : " ").append(Letters.told(w));
        }
        return row + " and more";
    }

    /** What a run answers and, where there is a row, the row. */
    String ran() {
        int answer = run();
        return answer < 0 ? Integer.toString(answer) : answer + ": " + row();
    }

    /** All that place tells of the i-th. */
    String place(int i) {
        StringBuilder all = new StringBuilder();
        for (int what = 0; what <= 4; what++) {
            all.append(what == 0 ? "" : " ").append(place(i, what));
        }
        return all.toString();
    }

    /** The names in the ring of the latest run. */
    String ring() {
        StringBuilder names = new StringBuilder();
        for (int i = 0; i <= 13; i++) {
            int name = ring(i);
            if (name == CopyReplace.NONE) {
                return names.toString();
            }
            names.append(i == 0 ? "" : " ").append(name);
        }
        return names + " and more";
    }
}
