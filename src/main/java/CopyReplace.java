/** Texts that copy others, with replacing by words and by parts of words; see README.md. */
public final class CopyReplace {
    public static final int NONE = -1;

    private static final int FINE = 0;
    private static final int NO_SUCH = -2;
    private static final int TOO_MUCH = -3;
    private static final int NOT_SO = -4;
    private static final int WORD_TOO_LONG = -5;
    private static final int NO_TEXT = -10;

    // What an entry is, is told by one number: words are above 0, a statement s is STATEMENT - s.
    private static final int SEPARATOR = 0;
    private static final int COMMENT = -1;
    private static final int OFF = -2;
    private static final int STATEMENT = -100;

    private static final int ROW_OF_WORDS = 0;
    private static final int LEADING = 1;
    private static final int TRAILING = 2;

    private static final int BASE = 27;
    private static final int MOST_LETTERS = 6;
    private static final int HIGHEST_NAME = 99;
    private static final int MOST_LIBRARIES = 12;
    private static final int MOST_ENTRIES = 200;
    private static final int MOST_STATEMENTS = 60;
    private static final int MOST_PHRASES = 100;
    private static final int MOST_PHRASES_OF_ONE = 8;
    private static final int MOST_WORDS_OF_PHRASE = 10;
    private static final int MOST_COPIES = 100;
    private static final int LONGEST_ROW = 300;

    private final Text[] texts = new Text[MOST_LIBRARIES + 1];
    private final Statement[] statements = new Statement[MOST_STATEMENTS];
    private final Phrase[] phrases = new Phrase[MOST_PHRASES];
    private int textCount;
    private int statementCount;
    private int phraseCount;

    /** The texts that are being made, the source first: each copies the next one. */
    private final Text[] open = new Text[MOST_LIBRARIES + 1];
    private final Row copied = new Row();
    private final Row result = new Row();
    private final int[] ringNames = new int[MOST_LIBRARIES + 1];
    private int ringSize;
    private int copiesDone;
    private int matches;

    public CopyReplace() {
        texts[0] = new Text(0, NONE);
        textCount = 1;
    }

    public int library(int name) {
        if (!isName(name)) {
            return NOT_SO;
        }
        if (textCount > MOST_LIBRARIES) {
            return NONE;
        }
        int number = textCount;
        texts[number] = new Text(number, name);
        textCount++;
        return number;
    }

    public int word(int text, int w) {
        Text t = textNumbered(text);
        if (t == null) {
            return NO_SUCH;
        }
        if (!isPlain(w)) {
            return NOT_SO;
        }
        return t.append(w) ? t.size : NONE;
    }

    public int copy(int text, int name, boolean suppressed) {
        Text t = textNumbered(text);
        if (t == null) {
            return NO_SUCH;
        }
        if (!isName(name)) {
            return NOT_SO;
        }
        return addStatement(t, true, name, suppressed);
    }

    public int replace(int text) {
        Text t = textNumbered(text);
        return t == null ? NO_SUCH : addStatement(t, false, NONE, false);
    }

    public int off(int text) {
        Text t = textNumbered(text);
        if (t == null) {
            return NO_SUCH;
        }
        return t.append(OFF) ? t.size : NONE;
    }

    public int phrase(int statement, int kind, int w) {
        Statement s = statementNumbered(statement);
        if (s == null) {
            return NO_SUCH;
        }
        if (kind < ROW_OF_WORDS || kind > TRAILING || !isWord(w)) {
            return NOT_SO;
        }
        if (phraseCount >= MOST_PHRASES || s.size >= MOST_PHRASES_OF_ONE) {
            return NONE;
        }
        Phrase p = new Phrase(phraseCount + 1, kind);
        p.fromWords.append(w);
        s.append(p);
        phrases[phraseCount] = p;
        phraseCount++;
        return p.number;
    }

    public int from(int phrase, int w) {
        Phrase p = phraseNumbered(phrase);
        if (p == null) {
            return NO_SUCH;
        }
        if (!isPlain(w)) {
            return NOT_SO;
        }
        if (p.kind != ROW_OF_WORDS || p.fromWords.isFull()) {
            return NONE;
        }
        if (w > 0) {
            p.fromWords.append(w);
        }
        return p.fromWords.size;
    }

    public int to(int phrase, int w) {
        Phrase p = phraseNumbered(phrase);
        if (p == null) {
            return NO_SUCH;
        }
        boolean ofPart = p.kind != ROW_OF_WORDS;
        if (ofPart ? !isWord(w) : !isPlain(w)) {
            return NOT_SO;
        }
        if (p.toWords.isFull() || ofPart && p.toWords.size > 0) {
            return NONE;
        }
        p.toWords.append(w);
        return p.toWords.size;
    }

    public int run() {
        result.clear();
        ringSize = 0;
        copiesDone = 0;
        matches = 0;
        Text source = textNumbered(0);
        if (source == null) {
            return result.size;
        }
        int fault = makeRow(source, 0, false);
        if (fault == FINE) {
            fault = matchByReplaces(source.row);
        }
        if (fault != FINE) {
            result.clear();
            return fault;
        }
        return result.size;
    }

    public int at(int i) throws ArrayIndexOutOfBoundsException {
        if (!result.has(i)) {
            throw new ArrayIndexOutOfBoundsException();
        }
        return result.code(i);
    }

    public int place(int i, int what) {
        if (!result.has(i)) {
            return NONE;
        }
        switch (what) {
            case 0:
                return result.texts[i];
            case 1:
                return result.entries[i];
            case 2:
                return result.phrases[i];
            case 3:
                return result.suppressed[i] ? 1 : 0;
            case 4:
                return result.copies[i];
            default:
                return NONE;
        }
    }

    public int ring(int i) {
        return i >= 0 && i < ringSize && i < ringNames.length ? ringNames[i] : NONE;
    }

    public int count(int what) {
        switch (what) {
            case 0:
                return textCount - 1;
            case 1:
                return statementCount;
            case 2:
                return phraseCount;
            case 3:
                return copiesDone;
            case 4:
                return matches;
            default:
                return NONE;
        }
    }

    private int addStatement(Text t, boolean isCopy, int name, boolean suppressed) {
        if (statementCount >= MOST_STATEMENTS || !t.append(STATEMENT - (statementCount + 1))) {
            return NONE;
        }
        Statement s = new Statement(statementCount + 1, isCopy, name, suppressed);
        statements[statementCount] = s;
        statementCount++;
        return s.number;
    }

    private Text textNumbered(int number) {
        return number >= 0 && number < textCount && number < texts.length ? texts[number] : null;
    }

    private Statement statementNumbered(int number) {
        return number >= 1 && number <= statementCount && number <= statements.length ? statements[number - 1] : null;
    }

    private Phrase phraseNumbered(int number) {
        return number >= 1 && number <= phraseCount && number <= phrases.length ? phrases[number - 1] : null;
    }

    private Statement statementOf(int code) {
        return code < STATEMENT ? statementNumbered(STATEMENT - code) : null;
    }

    private Text textNamed(int name) {
        for (int i = 1; i < textCount; i++) {
            Text t = textNumbered(i);
            if (t != null && t.name == name) {
                return t;
            }
        }
        return null;
    }

    /** Makes a text's row, the copies in it done; the depth is how many copies led to the text. */
    private int makeRow(Text t, int depth, boolean suppressed) {
        // Rings are refused before, so that no more texts than there are can be open at once.
        if (depth < 0 || depth >= open.length) {
            return TOO_MUCH;
        }
        open[depth] = t;
        t.row.clear();
        for (int e = 0; e < t.size; e++) {
            int code = t.entry(e);
            Statement s = statementOf(code);
            int fault;
            if (s != null && s.isCopy) {
                fault = addCopy(t.row, s, depth, suppressed);
            } else {
                fault = t.row.addEntry(code, t.number, e, depth, suppressed) ? FINE : TOO_MUCH;
            }
            if (fault != FINE) {
                return fault;
            }
        }
        return FINE;
    }

    private int addCopy(Row row, Statement s, int depth, boolean suppressed) {
        if (copiesDone >= MOST_COPIES) {
            return TOO_MUCH;
        }
        copiesDone++;
        Text t = textNamed(s.name);
        if (t == null) {
            return NO_TEXT - s.number;
        }
        if (closesRing(t, depth)) {
            return NONE;
        }
        int fault = makeRow(t, depth + 1, suppressed || s.suppressed);
        if (fault != FINE) {
            return fault;
        }
        // The matched row is made apart: a fault in matching comes ahead of one in the row it goes into.
        copied.clear();
        fault = matchPart(t.row, 0, t.row.size, s, copied);
        if (fault != FINE) {
            return fault;
        }
        return row.addAll(copied) ? FINE : TOO_MUCH;
    }

    /** Whether a text is being made already; then the ring's names are kept. */
    private boolean closesRing(Text t, int depth) {
        for (int d = 0; d <= depth && d < open.length; d++) {
            Text maker = open[d];
            if (maker == t || ringSize > 0) {
                keepRingName(maker);
            }
        }
        return ringSize > 0;
    }

    private void keepRingName(Text t) {
        if (t != null && ringSize < ringNames.length) {
            ringNames[ringSize] = t.name;
            ringSize++;
        }
    }

    /** Cuts the source's row at its replaces and offs, and matches each part by what stands ahead of it. */
    private int matchByReplaces(Row row) {
        Statement by = null;
        int start = 0;
        for (int i = 0; i <= row.size; i++) {
            boolean atEnd = i == row.size;
            if (!atEnd && row.code(i) >= COMMENT) {
                continue;
            }
            int fault = matchPart(row, start, i, by, result);
            if (fault != FINE) {
                return fault;
            }
            by = atEnd ? null : statementOf(row.code(i));
            start = i + 1;
        }
        return FINE;
    }

    /** Adds a part of a row, matched by a statement's phrases, to another row; without a statement all stays. */
    private int matchPart(Row row, int start, int end, Statement by, Row into) {
        int behind = start;
        for (int i = start; i < end; i++) {
            if (i < behind) {
                continue;
            }
            behind = matchAt(row, i, end, by, into);
            if (behind < 0) {
                return behind;
            }
        }
        return FINE;
    }

    /** Where the matching goes on behind the i-th, or a fault. */
    private int matchAt(Row row, int i, int end, Statement by, Row into) {
        int tries = by == null || row.code(i) <= 0 ? 0 : by.size;
        for (int k = 0; k < tries; k++) {
            Phrase p = by.get(k);
            int behind = p == null ? NONE : behindMatch(p, row, i, end);
            if (behind > i) {
                matches++;
                int fault = put(p, row, i, into);
                return fault == FINE ? behind : fault;
            }
        }
        return into.addSame(row, i) ? i + 1 : TOO_MUCH;
    }

    /** Where what a phrase matches from the i-th on has its end; NONE if it does not match. */
    private static int behindMatch(Phrase p, Row row, int i, int end) {
        if (p.kind != ROW_OF_WORDS) {
            return hasPart(row.code(i), p) ? i + 1 : NONE;
        }
        int found = 0;
        for (int j = i; j < end; j++) {
            int code = row.code(j);
            if (code == SEPARATOR || code == COMMENT) {
                continue;
            }
            if (code != p.fromWords.get(found)) {
                return NONE;
            }
            found++;
            if (found == p.fromWords.size) {
                return j + 1;
            }
        }
        return NONE;
    }

    private static int put(Phrase p, Row row, int i, Row into) {
        if (p.kind != ROW_OF_WORDS) {
            int changed = withPartChanged(row.code(i), p);
            if (changed < 0) {
                return changed;
            }
            return into.addPut(changed, p.number, row, i) ? FINE : TOO_MUCH;
        }
        for (int k = 0; k < p.toWords.size; k++) {
            if (!into.addPut(p.toWords.get(k), p.number, row, i)) {
                return TOO_MUCH;
            }
        }
        return FINE;
    }

    private static boolean hasPart(int w, Phrase p) {
        int part = p.fromWords.get(0);
        int rest = letters(w) - letters(part);
        if (rest <= 0) {
            return false;
        }
        return p.kind == LEADING ? withoutLast(w, rest) == part : lastOf(w, letters(part)) == part;
    }

    private static int withPartChanged(int w, Phrase p) {
        int partLetters = letters(p.fromWords.get(0));
        int rest = letters(w) - partLetters;
        // 0 has no letters, so it serves as the word that is not there.
        int put = p.toWords.size > 0 ? p.toWords.get(0) : 0;
        if (rest + letters(put) > MOST_LETTERS) {
            return WORD_TOO_LONG;
        }
        if (p.kind == LEADING) {
            return put * power(rest) + lastOf(w, rest);
        }
        return withoutLast(w, partLetters) * power(letters(put)) + put;
    }

    private static boolean isName(int name) {
        return name >= 0 && name <= HIGHEST_NAME;
    }

    /** Whether it is a word, a separator or a comment. */
    private static boolean isPlain(int w) {
        return w == SEPARATOR || w == COMMENT || isWord(w);
    }

    private static boolean isWord(int w) {
        int rest = w;
        for (int k = 0; k < MOST_LETTERS && rest > 0; k++) {
            if (rest % BASE == 0) {
                return false;
            }
            rest /= BASE;
        }
        return w > 0 && rest == 0;
    }

    private static int letters(int w) {
        int n = 0;
        for (int rest = w; rest > 0 && n < MOST_LETTERS; rest /= BASE) {
            n++;
        }
        return n;
    }

    private static int power(int n) {
        int product = 1;
        for (int k = 0; k < n && k < MOST_LETTERS; k++) {
            product *= BASE;
        }
        return product;
    }

    private static int withoutLast(int w, int n) {
        int rest = w;
        for (int k = 0; k < n && k < MOST_LETTERS; k++) {
            rest /= BASE;
        }
        return rest;
    }

    private static int lastOf(int w, int n) {
        int last = 0;
        int unit = 1;
        int rest = w;
        for (int k = 0; k < n && k < MOST_LETTERS; k++) {
            last += rest % BASE * unit;
            unit *= BASE;
            rest /= BASE;
        }
        return last;
    }

    private static final class Text {
        final int number;
        final int name;
        /** A text is made but once at a time, as rings are refused: so each has one row, used again. */
        final Row row = new Row();
        private final int[] entries = new int[MOST_ENTRIES];
        int size;

        Text(int number, int name) {
            this.number = number;
            this.name = name;
        }

        boolean append(int code) {
            if (size >= entries.length) {
                return false;
            }
            entries[size] = code;
            size++;
            return true;
        }

        int entry(int e) {
            return e >= 0 && e < size ? entries[e] : COMMENT;
        }
    }

    private static final class Statement {
        final int number;
        final boolean isCopy;
        final int name;
        final boolean suppressed;
        private final Phrase[] own = new Phrase[MOST_PHRASES_OF_ONE];
        int size;

        Statement(int number, boolean isCopy, int name, boolean suppressed) {
            this.number = number;
            this.isCopy = isCopy;
            this.name = name;
            this.suppressed = suppressed;
        }

        void append(Phrase p) {
            if (size < own.length) {
                own[size] = p;
                size++;
            }
        }

        Phrase get(int k) {
            return k >= 0 && k < size ? own[k] : null;
        }
    }

    private static final class Phrase {
        final int number;
        final int kind;
        final Words fromWords = new Words();
        final Words toWords = new Words();

        Phrase(int number, int kind) {
            this.number = number;
            this.kind = kind;
        }
    }

    private static final class Words {
        private final int[] items = new int[MOST_WORDS_OF_PHRASE];
        int size;

        boolean isFull() {
            return size >= items.length;
        }

        void append(int w) {
            if (!isFull()) {
                items[size] = w;
                size++;
            }
        }

        int get(int k) {
            return k >= 0 && k < size ? items[k] : SEPARATOR;
        }
    }

    /** What a run makes of a text, each with where it came from. */
    private static final class Row {
        final int[] codes = new int[LONGEST_ROW];
        final int[] texts = new int[LONGEST_ROW];
        final int[] entries = new int[LONGEST_ROW];
        final int[] phrases = new int[LONGEST_ROW];
        final int[] copies = new int[LONGEST_ROW];
        final boolean[] suppressed = new boolean[LONGEST_ROW];
        int size;

        void clear() {
            size = 0;
        }

        boolean has(int i) {
            return i >= 0 && i < size;
        }

        int code(int i) {
            return has(i) ? codes[i] : COMMENT;
        }

        boolean addEntry(int code, int text, int entry, int depth, boolean isSuppressed) {
            if (size >= LONGEST_ROW) {
                return false;
            }
            codes[size] = code;
            texts[size] = text;
            entries[size] = entry;
            phrases[size] = 0;
            copies[size] = depth;
            suppressed[size] = isSuppressed;
            size++;
            return true;
        }

        boolean addSame(Row other, int i) {
            return other.has(i) && addPut(other.codes[i], other.phrases[i], other, i);
        }

        /** Adds what a phrase put, at the place of the i-th of another row. */
        boolean addPut(int code, int phrase, Row other, int i) {
            int mine = size;
            if (!other.has(i)
                    || !addEntry(code, other.texts[i], other.entries[i], other.copies[i], other.suppressed[i])) {
                return false;
            }
            phrases[mine] = phrase;
            return true;
        }

        boolean addAll(Row other) {
            for (int i = 0; i < other.size; i++) {
                if (!addSame(other, i)) {
                    return false;
                }
            }
            return true;
        }
    }
}
