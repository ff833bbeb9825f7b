import java.util.ArrayList;
import java.util.List;

/** The document written a second time, by lists and texts of letters, without a thought for its cost. */
final class Model {
    private static final class Fault extends Exception {
        private static final long serialVersionUID = 1L;
        final int answer;

        Fault(int answer) {
            this.answer = answer;
        }
    }

    private record Entry(char sort, String word, int statement) { }

    /** Sort: w word, s separator, c comment, r replace, o off. */
    private record Item(Entry entry, int text, int number, int phrase, boolean suppressed, int copies) {
        Item with(Entry put, int by) {
            return new Item(put, text, number, by, suppressed, copies);
        }

        Item copiedBy(boolean isSuppressed) {
            return new Item(entry, text, number, phrase, suppressed || isSuppressed, copies + 1);
        }

        boolean isAside() {
            return entry.sort == 's' || entry.sort == 'c';
        }
    }

    private static final class Phrase {
        int number;
        int kind;
        final List<String> from = new ArrayList<>();
        final List<Entry> to = new ArrayList<>();
    }

    private static final class Statement {
        int number;
        int name = -1;
        boolean suppressed;
        final List<Phrase> phrases = new ArrayList<>();
    }

    private final List<List<Entry>> texts = new ArrayList<>();
    private final List<Integer> names = new ArrayList<>();
    private final List<Statement> statements = new ArrayList<>();
    private final List<Phrase> phrases = new ArrayList<>();
    private List<Item> row = new ArrayList<>();
    private List<Integer> ring = new ArrayList<>();
    private int copies;
    private int matches;

    Model() {
        texts.add(new ArrayList<>());
        names.add(-1);
    }

    /** The entry that a number tells; null if it is none. */
    private static Entry told(int w) {
        if (w == 0) {
            return new Entry('s', "", 0);
        }
        if (w == -1) {
            return new Entry('c', "", 0);
        }
        String digits = w < 0 ? "0" : Integer.toString(w, 27);
        return digits.length() > 6 || digits.contains("0") ? null : new Entry('w', digits, 0);
    }

    private static int number(Entry e) {
        return e.sort == 's' ? 0 : e.sort == 'c' ? -1 : Integer.parseInt(e.word, 27);
    }

    int library(int name) {
        if (name < 0 || name > 99) {
            return -4;
        }
        if (texts.size() == 13) {
            return -1;
        }
        texts.add(new ArrayList<>());
        names.add(name);
        return texts.size() - 1;
    }

    int word(int text, int w) {
        if (text < 0 || text >= texts.size()) {
            return -2;
        }
        return told(w) == null ? -4 : add(text, told(w));
    }

    int off(int text) {
        return text < 0 || text >= texts.size() ? -2 : add(text, new Entry('o', "", 0));
    }

    private int add(int text, Entry e) {
        if (texts.get(text).size() == 200) {
            return -1;
        }
        texts.get(text).add(e);
        return texts.get(text).size();
    }

    int copy(int text, int name, boolean suppressed) {
        if (text < 0 || text >= texts.size()) {
            return -2;
        }
        return name < 0 || name > 99 ? -4 : state(text, 'k', name, suppressed);
    }

    int replace(int text) {
        return text < 0 || text >= texts.size() ? -2 : state(text, 'r', -1, false);
    }

    private int state(int text, char sort, int name, boolean suppressed) {
        Statement s = new Statement();
        s.number = statements.size() + 1;
        s.name = name;
        s.suppressed = suppressed;
        if (s.number > 60 || add(text, new Entry(sort, "", s.number)) < 0) {
            return -1;
        }
        statements.add(s);
        return s.number;
    }

    int phrase(int statement, int kind, int w) {
        if (statement < 1 || statement > statements.size()) {
            return -2;
        }
        if (kind < 0 || kind > 2 || told(w) == null || told(w).sort != 'w') {
            return -4;
        }
        Statement s = statements.get(statement - 1);
        if (phrases.size() == 100 || s.phrases.size() == 8) {
            return -1;
        }
        Phrase p = new Phrase();
        phrases.add(p);
        s.phrases.add(p);
        p.number = phrases.size();
        p.kind = kind;
        p.from.add(told(w).word);
        return p.number;
    }

    int from(int phrase, int w) {
        if (phrase < 1 || phrase > phrases.size()) {
            return -2;
        }
        if (told(w) == null) {
            return -4;
        }
        Phrase p = phrases.get(phrase - 1);
        if (p.kind > 0 || p.from.size() == 10) {
            return -1;
        }
        if (told(w).sort == 'w') {
            p.from.add(told(w).word);
        }
        return p.from.size();
    }

    int to(int phrase, int w) {
        if (phrase < 1 || phrase > phrases.size()) {
            return -2;
        }
        Phrase p = phrases.get(phrase - 1);
        if (told(w) == null || p.kind > 0 && told(w).sort != 'w') {
            return -4;
        }
        if (p.to.size() == (p.kind == 0 ? 10 : 1)) {
            return -1;
        }
        p.to.add(told(w));
        return p.to.size();
    }

    int run() {
        row = new ArrayList<>();
        ring = new ArrayList<>();
        copies = 0;
        matches = 0;
        try {
            row = partByPart(made(0, List.of(0)));
            return row.size();
        } catch (Fault f) {
            return f.answer;
        }
    }

    /** A text's row; open are the texts that are being made, it the last one. */
    private List<Item> made(int text, List<Integer> open) throws Fault {
        List<Item> made = new ArrayList<>();
        List<Entry> entries = texts.get(text);
        for (int e = 0; e < entries.size(); e++) {
            if (entries.get(e).sort == 'k') {
                for (Item item : copied(statements.get(entries.get(e).statement - 1), open)) {
                    grow(made, item);
                }
            } else {
                grow(made, new Item(entries.get(e), text, e, 0, false, 0));
            }
        }
        return made;
    }

    private List<Item> copied(Statement s, List<Integer> open) throws Fault {
        if (copies == 100) {
            throw new Fault(-3);
        }
        copies++;
        int text = names.indexOf(s.name);
        if (text < 0) {
            throw new Fault(-10 - s.number);
        }
        if (open.contains(text)) {
            for (int t : open.subList(open.indexOf(text), open.size())) {
                ring.add(names.get(t));
            }
            throw new Fault(-1);
        }
        List<Integer> opened = new ArrayList<>(open);
        opened.add(text);
        List<Item> items = new ArrayList<>();
        for (Item item : made(text, opened)) {
            items.add(item.copiedBy(s.suppressed));
        }
        List<Item> matched = new ArrayList<>();
        match(items, s.phrases, matched);
        return matched;
    }

    private static void grow(List<Item> items, Item item) throws Fault {
        items.add(item);
        if (items.size() > 300) {
            throw new Fault(-3);
        }
    }

    private List<Item> partByPart(List<Item> whole) throws Fault {
        List<Item> all = new ArrayList<>();
        List<Item> part = new ArrayList<>();
        List<Phrase> by = List.of();
        for (Item item : whole) {
            char sort = item.entry.sort;
            if (sort != 'r' && sort != 'o') {
                part.add(item);
                continue;
            }
            match(part, by, all);
            part.clear();
            by = sort == 'o' ? List.of() : statements.get(item.entry.statement - 1).phrases;
        }
        match(part, by, all);
        return all;
    }

    private void match(List<Item> items, List<Phrase> by, List<Item> into) throws Fault {
        List<Item> left = new ArrayList<>(items);
        while (!left.isEmpty()) {
            Item first = left.get(0);
            int taken = 0;
            for (Phrase p : by) {
                taken = first.entry.sort != 'w' ? 0 : p.kind == 0 ? matchRow(p, left) : matchPart(p, first.entry.word);
                if (taken > 0) {
                    matches++;
                    for (Entry put : p.kind == 0 ? p.to : List.of(changed(p, first.entry.word))) {
                        grow(into, first.with(put, p.number));
                    }
                    break;
                }
            }
            if (taken == 0) {
                grow(into, first);
                taken = 1;
            }
            left = left.subList(taken, left.size());
        }
    }

    /** How many of what is left a row of words takes; 0 if it does not match. */
    private static int matchRow(Phrase p, List<Item> left) {
        List<String> wanted = new ArrayList<>(p.from);
        for (int i = 0; i < left.size(); i++) {
            if (left.get(i).isAside()) {
                continue;
            }
            if (left.get(i).entry.sort != 'w' || !left.get(i).entry.word.equals(wanted.remove(0))) {
                return 0;
            }
            if (wanted.isEmpty()) {
                return i + 1;
            }
        }
        return 0;
    }

    private static int matchPart(Phrase p, String word) {
        String part = p.from.get(0);
        boolean has = p.kind == 1 ? word.startsWith(part) : word.endsWith(part);
        return has && word.length() > part.length() ? 1 : 0;
    }

    private static Entry changed(Phrase p, String word) throws Fault {
        int part = p.from.get(0).length();
        String put = p.to.isEmpty() ? "" : p.to.get(0).word;
        String changed = p.kind == 1 ? put + word.substring(part) : word.substring(0, word.length() - part) + put;
        if (changed.length() > 6) {
            throw new Fault(-5);
        }
        return new Entry('w', changed, 0);
    }

    boolean has(int i) {
        return i >= 0 && i < row.size();
    }

    int at(int i) {
        return number(row.get(i).entry);
    }

    int place(int i, int what) {
        if (!has(i) || what < 0 || what > 4) {
            return -1;
        }
        Item item = row.get(i);
        int[] answers = {item.text, item.number, item.phrase, item.suppressed ? 1 : 0, item.copies};
        return answers[what];
    }

    int ring(int i) {
        return i < 0 || i >= ring.size() ? -1 : ring.get(i);
    }

    int count(int what) {
        int[] answers = {texts.size() - 1, statements.size(), phrases.size(), copies, matches};
        return what < 0 || what > 4 ? -1 : answers[what];
    }
}
