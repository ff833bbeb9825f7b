/** Each promise of the document by its number: ordinary inputs, edges and wrong inputs. */
public final class PromisesTest {
    private static final int NONE = CopyReplace.NONE;
    private static final int[] NO_WORDS = {-2, 27, 54, 731, 14348907, 387420489, 387420490,
        Integer.MAX_VALUE, Integer.MIN_VALUE};
    private static final int[] NO_TEXTS = {-1, 1, 13, Integer.MAX_VALUE, Integer.MIN_VALUE};

    private static final Checks c = new Checks();

    public static void main(String[] args) {
        newObject();
        library();
        word();
        copy();
        replace();
        off();
        phrase();
        from();
        to();
        runOfCopies();
        runOfRowPhrases();
        runOfPartPhrases();
        runOfReplaces();
        runFaults();
        runLimits();
        runFaultsInOrder();
        at();
        place();
        placeByPhrases();
        ring();
        count();
        c.end();
    }

    private static int w(String letters) {
        return Letters.word(letters);
    }

    private static int number(String entry) {
        return Letters.entry(entry);
    }

    private static int[] numbers(String entries) {
        return Letters.entries(entries);
    }

    /** Adds entries at a text's end, told by letters. */
    private static void tell(CopyReplace x, int text, String entries) {
        for (int w : numbers(entries)) {
            x.word(text, w);
        }
    }

    /** A phrase of a statement, from and to what is told by letters. */
    private static int tellPhrase(CopyReplace x, int statement, int kind, String from, String to) {
        int p = 0;
        for (String e : from.split(" ")) {
            if (p == 0) {
                p = x.phrase(statement, kind, w(e));
            } else {
                x.from(p, number(e));
            }
        }
        for (int w : numbers(to)) {
            x.to(p, w);
        }
        return p;
    }

    /** The source is this, behind a replace by one phrase: the row that is due. */
    private static void replaced(int kind, String from, String to, String source, String want) {
        CopyReplace x = new CopyReplace();
        x.replace(0);
        tellPhrase(x, 1, kind, from, to);
        tell(x, 0, source);
        String what = "kind " + kind + " " + from + " -> " + to + " in " + source;
        int[] row = numbers(want);
        c.due(what + ": run()", x.run(), row.length);
        c.row(what, x, row);
    }

    private static void newObject() {
        CopyReplace x = new CopyReplace();
        for (int what = 0; what <= 4; what++) {
            c.due("1: count(" + what + ") of a new object", x.count(what), 0);
        }
        c.due("1: place(0, 0) of a new object", x.place(0, 0), NONE);
        c.due("1: ring(0) of a new object", x.ring(0), NONE);
        c.noneAt("1: a new object", x, 0);
        c.due("1: run() of a new object", x.run(), 0);
        c.due("1: no library 1", x.word(1, 1), -2);
        c.due("1: the first entry of the source", x.word(0, 1), 1);
        CopyReplace y = new CopyReplace();
        c.due("1: nothing is shared among objects", y.run(), 0);
    }

    private static void library() {
        CopyReplace x = new CopyReplace();
        int[] wrong = {-1, 100, Integer.MAX_VALUE, Integer.MIN_VALUE};
        for (int name : wrong) {
            c.due("2: library(" + name + ")", x.library(name), -4);
        }
        int[] names = {0, 99, 5, 5, 1, 2, 3, 4, 6, 7, 8, 9};
        for (int i = 0; i < names.length; i++) {
            c.due("2: library(" + names[i] + ")", x.library(names[i]), i + 1);
        }
        c.due("2: a 13th library", x.library(10), NONE);
        c.due("2: a 13th library whose name is not so", x.library(100), -4);
        c.due("2: no text 13", x.word(13, 1), -2);
        c.due("2: text 12", x.word(12, 1), 1);
    }

    private static void word() {
        CopyReplace x = new CopyReplace();
        for (int text : NO_TEXTS) {
            c.due("3: word(" + text + ", 1)", x.word(text, 1), -2);
            c.due("3: word(" + text + ", 27)", x.word(text, 27), -2);
        }
        for (int no : NO_WORDS) {
            c.due("3: word(0, " + no + ")", x.word(0, no), -4);
        }
        int[] words = {1, 26, 28, -1, 0, w("zz"), w("aaaaaa"), w("zzzzzz")};
        for (int i = 0; i < words.length; i++) {
            c.due("3: word(0, " + words[i] + ")", x.word(0, words[i]), i + 1);
        }
        for (int i = words.length; i < 200; i++) {
            c.due("3: entry " + i, x.word(0, 1), i + 1);
        }
        c.due("3: a 201st entry", x.word(0, 1), NONE);
        c.due("3: a 201st entry, no word", x.word(0, 27), -4);
        x.library(1);
        c.due("3: each text has its own entries", x.word(1, 1), 1);
        c.due("3: what was refused is not there", x.run(), 200);
    }

    private static void copy() {
        CopyReplace x = new CopyReplace();
        for (int text : NO_TEXTS) {
            c.due("4: copy(" + text + ", 1, false)", x.copy(text, 1, false), -2);
            c.due("4: copy(" + text + ", 100, false)", x.copy(text, 100, false), -2);
        }
        c.due("4: copy(0, -1, false)", x.copy(0, -1, false), -4);
        c.due("4: copy(0, 100, true)", x.copy(0, 100, true), -4);
        c.due("4: copy(0, 99, true)", x.copy(0, 99, true), 1);
        c.due("4: copy(0, 0, true)", x.copy(0, 0, true), 2);
        c.due("4: a copy is an entry", x.word(0, 1), 3);
        for (int s = 3; s <= 60; s++) {
            c.due("4: statement " + s, x.copy(0, 1, false), s);
        }
        c.due("4: a 61st statement", x.copy(0, 1, false), NONE);
        c.due("4: a 61st statement, name not so", x.copy(0, 100, false), -4);
        c.due("4: a 61st statement, no text", x.copy(1, 1, false), -2);
        c.due("4: what was refused is no entry", x.word(0, 1), 62);
        CopyReplace full = fullSource();
        c.due("4: a copy as 201st entry", full.copy(0, 1, false), NONE);
        c.due("4: a copy as 201st entry, name not so", full.copy(0, 100, false), -4);
        c.due("4: what was refused is no statement", full.count(1), 0);
    }

    private static CopyReplace fullSource() {
        CopyReplace x = new CopyReplace();
        for (int i = 0; i < 200; i++) {
            x.word(0, 1);
        }
        return x;
    }

    private static void replace() {
        CopyReplace x = new CopyReplace();
        for (int text : NO_TEXTS) {
            c.due("5: replace(" + text + ")", x.replace(text), -2);
        }
        c.due("5: replace(0)", x.replace(0), 1);
        c.due("5: numbered together with copies", x.copy(0, 1, false), 2);
        x.library(1);
        c.due("5: replace(1)", x.replace(1), 3);
        c.due("5: a replace is an entry", x.word(0, 1), 3);
        for (int s = 4; s <= 60; s++) {
            c.due("5: statement " + s, x.replace(1), s);
        }
        c.due("5: a 61st statement", x.replace(0), NONE);
        c.due("5: a 61st statement, no text", x.replace(2), -2);
        c.due("5: what was refused is no entry", x.word(0, 1), 4);
        CopyReplace full = fullSource();
        c.due("5: a replace as 201st entry", full.replace(0), NONE);
        c.due("5: what was refused is no statement", full.count(1), 0);
    }

    private static void off() {
        CopyReplace x = new CopyReplace();
        for (int text : NO_TEXTS) {
            c.due("6: off(" + text + ")", x.off(text), -2);
        }
        c.due("6: off(0)", x.off(0), 1);
        c.due("6: off(0) again", x.off(0), 2);
        c.due("6: an off is no statement", x.count(1), 0);
        c.due("6: offs are gone", x.run(), 0);
        c.due("6: an off as 201st entry", fullSource().off(0), NONE);
    }

    private static void phrase() {
        CopyReplace x = new CopyReplace();
        c.due("7: no statement 1", x.phrase(1, 0, 1), -2);
        x.replace(0);
        int[] noStatements = {0, -1, 2, 61, Integer.MAX_VALUE, Integer.MIN_VALUE};
        for (int s : noStatements) {
            c.due("7: phrase(" + s + ", 0, 1)", x.phrase(s, 0, 1), -2);
            c.due("7: phrase(" + s + ", 3, 27)", x.phrase(s, 3, 27), -2);
        }
        c.due("7: kind -1", x.phrase(1, -1, 1), -4);
        c.due("7: kind 3", x.phrase(1, 3, 1), -4);
        c.due("7: from a separator", x.phrase(1, 0, 0), -4);
        c.due("7: from a comment", x.phrase(1, 0, -1), -4);
        for (int no : NO_WORDS) {
            c.due("7: phrase(1, 0, " + no + ")", x.phrase(1, 0, no), -4);
        }
        for (int p = 1; p <= 8; p++) {
            c.due("7: phrase " + p, x.phrase(1, p % 3, 1), p);
        }
        c.due("7: a 9th of a statement", x.phrase(1, 0, 1), NONE);
        c.due("7: a 9th, kind not so", x.phrase(1, 3, 1), -4);
        for (int p = 9; p <= 100; p++) {
            int s = p % 8 == 1 ? x.copy(0, 1, false) : x.count(1);
            c.due("7: phrase " + p, x.phrase(s, 0, w("zzzzzz")), p);
        }
        c.due("7: a 101st of a statement that has 4", x.phrase(x.count(1), 0, 1), NONE);
        c.due("7: a 101st, no word", x.phrase(x.count(1), 0, 0), -4);
        c.due("7: the phrases there are", x.count(2), 100);
    }

    private static void from() {
        CopyReplace x = new CopyReplace();
        c.due("8: no phrase 1", x.from(1, 1), -2);
        x.replace(0);
        x.phrase(1, 0, 1);
        int[] noPhrases = {0, -1, 2, 101, Integer.MAX_VALUE, Integer.MIN_VALUE};
        for (int p : noPhrases) {
            c.due("8: from(" + p + ", 1)", x.from(p, 1), -2);
            c.due("8: from(" + p + ", 27)", x.from(p, 27), -2);
        }
        for (int no : NO_WORDS) {
            c.due("8: from(1, " + no + ")", x.from(1, no), -4);
        }
        c.due("8: a separator adds none", x.from(1, 0), 1);
        c.due("8: a comment adds none", x.from(1, -1), 1);
        for (int n = 2; n <= 10; n++) {
            c.due("8: word " + n, x.from(1, n), n);
        }
        c.due("8: an 11th word", x.from(1, 11), NONE);
        c.due("8: an 11th, no word", x.from(1, 27), -4);
        for (int kind = 1; kind <= 2; kind++) {
            int p = x.phrase(1, kind, 1);
            c.due("8: a second word of kind " + kind, x.from(p, 1), NONE);
            c.due("8: no word for kind " + kind, x.from(p, 27), -4);
        }
        tell(x, 0, "a b c d e f g h i j k a");
        c.due("8: the ten words match", x.run(), 2);
    }

    private static void to() {
        CopyReplace x = new CopyReplace();
        c.due("9: no phrase 1", x.to(1, 1), -2);
        x.replace(0);
        x.phrase(1, 0, 1);
        int[] noPhrases = {0, -1, 2, 101, Integer.MAX_VALUE, Integer.MIN_VALUE};
        for (int p : noPhrases) {
            c.due("9: to(" + p + ", 1)", x.to(p, 1), -2);
            c.due("9: to(" + p + ", 27)", x.to(p, 27), -2);
        }
        for (int no : NO_WORDS) {
            c.due("9: to(1, " + no + ")", x.to(1, no), -4);
        }
        int[] ten = {5, 0, -1, 6, 0, 0, -1, -1, 7, w("zzzzzz")};
        for (int n = 0; n < 10; n++) {
            c.due("9: to(1, " + ten[n] + ")", x.to(1, ten[n]), n + 1);
        }
        c.due("9: an 11th", x.to(1, 1), NONE);
        c.due("9: an 11th separator", x.to(1, 0), NONE);
        c.due("9: an 11th, no word", x.to(1, 27), -4);
        for (int kind = 1; kind <= 2; kind++) {
            int p = x.phrase(1, kind, 2);
            c.due("9: a separator for kind " + kind, x.to(p, 0), -4);
            c.due("9: a comment for kind " + kind, x.to(p, -1), -4);
            c.due("9: no word for kind " + kind, x.to(p, 27), -4);
            c.due("9: a word for kind " + kind, x.to(p, 3), 1);
            c.due("9: a second for kind " + kind, x.to(p, 3), NONE);
            c.due("9: a second separator for kind " + kind, x.to(p, 0), -4);
        }
        x.word(0, 1);
        c.due("9: the ten are put", x.run(), 10);
        c.row("9", x, ten);
    }

    private static void runOfCopies() {
        CopyReplace x = new CopyReplace();
        x.library(7);
        x.library(8);
        x.library(7);
        tell(x, 3, "z");
        tell(x, 2, "c *");
        tell(x, 1, "a");
        x.copy(1, 8, false);
        tell(x, 1, "b");
        tell(x, 0, "s .");
        x.copy(0, 7, false);
        x.copy(0, 8, false);
        c.due("10: copies within copies, the first of a name", x.run(), 8);
        c.row("10: copies", x, numbers("s . a c * b c *"));
        tell(x, 2, "d");
        c.due("10: a run takes what has been told since", x.run(), 10);
        c.row("10: copies again", x, numbers("s . a c * d b c * d"));
    }

    private static void runOfRowPhrases() {
        replaced(0, "a", "b", "a c a", "b c b");
        replaced(0, "a", "a a", "a a", "a a a a");
        replaced(0, "a", "", "a . a", ".");
        replaced(0, "a", "", "a", "");
        replaced(0, "a", "b", "aa ba", "aa ba");
        replaced(0, "a b", "x", "a . * b . c", "x . c");
        replaced(0, "a b", "x", ". a b", ". x");
        replaced(0, "a b", "x", "a c b", "a c b");
        replaced(0, "a b", "x", "a .", "a .");
        replaced(0, "a a", "x", "a a a", "x a");
        replaced(0, "a a b", "x", "a a a b", "a x");
        replaced(0, "a b", "b", "a a b b", "a b b");
        replaced(0, "a . b", "x", "a b", "x");
        replaced(0, "a", ". *", "a", ". *");

        CopyReplace x = new CopyReplace();
        x.library(1);
        x.library(2);
        tell(x, 2, "a b");
        tell(x, 1, "a");
        x.copy(1, 2, false);
        tell(x, 1, "c");
        x.copy(0, 1, false);
        tell(x, 0, "a");
        tellPhrase(x, 1, 0, "b", "p");
        tellPhrase(x, 2, 0, "p c", "q r");
        tellPhrase(x, 2, 0, "a p", "never");
        tellPhrase(x, 2, 0, "a", "c");
        tellPhrase(x, 1, 0, "a", "never");
        c.due("10: the inner copy's phrases come first", x.run(), 5);
        c.row("10: nested matching", x, w("c"), w("never"), w("q"), w("r"), w("a"));
    }

    private static void runOfPartPhrases() {
        replaced(1, "a", "b", "a ab aab cab", "a bb bab cab");
        replaced(2, "b", "x", "b ab abb abc", "b ax abx abc");
        replaced(1, "a", "", "a aa ab .", "a a b .");
        replaced(2, "ab", "", "ab cab cdab abab", "ab c cd ab");
        replaced(1, "ab", "wxyz", "abcd abc ab", "wxyzcd wxyzc ab");
        replaced(2, "cd", "wxyz", "abcd bcd cd", "abwxyz bwxyz cd");
        replaced(1, "zzzzz", "y", "zzzzzz zzzzz", "yz zzzzz");
        replaced(2, "zzzzz", "zzzzz", "azzzzz", "azzzzz");
        replaced(1, "b", "x", "bb", "xb");
        replaced(2, "b", "x", "bb", "bx");
        replaced(1, "a", "b", ". *", ". *");

        CopyReplace x = new CopyReplace();
        x.replace(0);
        tellPhrase(x, 1, 1, "a", "b");
        tellPhrase(x, 1, 2, "a", "c");
        tellPhrase(x, 1, 0, "aa", "never");
        tellPhrase(x, 1, 0, "b d", "bd");
        tell(x, 0, "aa ba b d");
        c.due("10: only the first phrase that matches", x.run(), 3);
        c.row("10: the first phrase", x, numbers("ba bc bd"));
    }

    private static void runOfReplaces() {
        CopyReplace x = new CopyReplace();
        x.library(1);
        tell(x, 0, "a b");
        int first = x.replace(0);
        tell(x, 0, "a b");
        int second = x.replace(0);
        tell(x, 0, "a b");
        x.off(0);
        tell(x, 0, "a b");
        x.copy(0, 1, false);
        tell(x, 0, "a b");
        x.off(1);
        x.off(1);
        int third = x.replace(1);
        tell(x, 1, "a");
        tellPhrase(x, first, 0, "a", "c");
        tellPhrase(x, first, 0, "b a", "never");
        tellPhrase(x, second, 0, "b", "d");
        tellPhrase(x, third, 0, "a a", "e");
        c.due("10: part by part", x.run(), 10);
        c.row("10: part by part", x, numbers("a b c b a d a b e b"));
        c.due("10: matched", x.count(4), 3);

        CopyReplace y = new CopyReplace();
        y.library(1);
        tell(y, 1, "a");
        y.off(1);
        tell(y, 1, "b");
        int replace = y.replace(1);
        tell(y, 1, "c");
        int copy = y.copy(0, 1, false);
        tellPhrase(y, copy, 0, "a b", "never");
        tellPhrase(y, copy, 0, "b c", "never");
        tellPhrase(y, copy, 0, "c", "a");
        tellPhrase(y, replace, 0, "a", "d");
        c.due("10: offs and replaces break a row of words, and stay for the end", y.run(), 3);
        c.row("10: offs in a copy", y, numbers("a b d"));
    }

    private static void runFaults() {
        CopyReplace x = new CopyReplace();
        x.library(1);
        x.word(0, 1);
        x.copy(0, 1, false);
        x.copy(1, 2, false);
        c.due("10: copy 2's name has no text", x.run(), -12);
        c.noneAt("10: no row by a fault", x, 0);
        c.due("10: no place by a fault", x.place(0, 0), NONE);
        x.library(2);
        c.due("10: now it has one", x.run(), 1);
        x.copy(2, 2, false);
        c.due("10: a text that copies itself", x.run(), NONE);
        c.noneAt("10: no row by a ring", x, 0);

        CopyReplace y = new CopyReplace();
        y.library(1);
        y.word(1, w("abcdef"));
        y.copy(0, 1, false);
        tellPhrase(y, 1, 1, "a", "xy");
        c.due("10: too long a word by a leading part", y.run(), -5);
        CopyReplace z = new CopyReplace();
        z.replace(0);
        z.word(0, w("abcdef"));
        tellPhrase(z, 1, 2, "f", "xy");
        c.due("10: too long a word by a trailing part", z.run(), -5);
    }

    private static void runLimits() {
        c.due("10: 100 copies", copiesOfEmpty(9).run(), 100);
        c.due("10: 110 copies", copiesOfEmpty(10).run(), -3);

        CopyReplace x = new CopyReplace();
        x.library(1);
        for (int i = 0; i < 30; i++) {
            x.word(1, 1);
        }
        for (int i = 0; i < 10; i++) {
            x.copy(0, 1, false);
        }
        c.due("10: a row of 300", x.run(), 300);
        c.noneAt("10: a row of 300", x, 300);
        x.off(0);
        c.due("10: a text's row of 300 and an off", x.run(), -3);

        CopyReplace y = new CopyReplace();
        y.replace(0);
        tellPhrase(y, 1, 0, "a", "a b c d e f g h i j");
        for (int i = 0; i < 30; i++) {
            y.word(0, 1);
        }
        c.due("10: 300 by matching, the replace gone", y.run(), 300);
        c.due("10: all matched", y.count(4), 30);
        y.word(0, 0);
        c.due("10: 301 by matching", y.run(), -3);
        c.noneAt("10: 301 by matching", y, 0);

        CopyReplace z = new CopyReplace();
        z.library(1);
        z.library(2);
        z.copy(0, 2, false);
        z.copy(2, 1, false);
        tellPhrase(z, 1, 0, "a", "");
        tellPhrase(z, 2, 0, "a", "a a a a a a a a a a");
        for (int i = 0; i < 30; i++) {
            z.word(1, 1);
        }
        c.due("10: a row of 300 made shorter", z.run(), 0);
        z.word(1, 1);
        c.due("10: a row within of 310", z.run(), -3);
        c.due("10: the match that made it too long is counted", z.count(4), 31);
    }

    /** 10 copies of a text with so many copies of an empty one, and a word each, and none more. */
    private static CopyReplace copiesOfEmpty(int within) {
        CopyReplace x = new CopyReplace();
        x.library(1);
        x.library(2);
        for (int i = 0; i < within; i++) {
            x.copy(1, 2, false);
        }
        for (int i = 0; i < 10; i++) {
            x.word(1, 1);
        }
        for (int i = 0; i < 10; i++) {
            x.copy(0, 1, false);
        }
        return x;
    }

    private static void runFaultsInOrder() {
        CopyReplace x = new CopyReplace();
        x.library(1);
        x.copy(0, 1, false);
        x.copy(0, 9, false);
        x.replace(0);
        x.word(0, w("aaaaaa"));
        x.word(1, w("aaaaaa"));
        tellPhrase(x, 3, 1, "a", "bb");
        c.due("10: a missing text comes ahead of the replaces", x.run(), -12);
        tellPhrase(x, 1, 1, "a", "bb");
        c.due("10: a copy's matching comes ahead of the next copy", x.run(), -5);

        CopyReplace y = new CopyReplace();
        y.library(1);
        y.library(2);
        for (int i = 0; i < 30; i++) {
            y.word(1, 1);
        }
        for (int i = 0; i < 10; i++) {
            y.copy(0, 1, false);
        }
        y.word(2, w("aaaaaa"));
        int last = y.copy(0, 2, false);
        c.due("10: a row of 301", y.run(), -3);
        tellPhrase(y, last, 1, "a", "bb");
        c.due("10: a row is matched before it is put", y.run(), -5);

        CopyReplace z = new CopyReplace();
        z.replace(0);
        tellPhrase(z, 1, 0, "a", "a a a a a a a a a a");
        tellPhrase(z, 1, 1, "a", "bb");
        for (int i = 0; i < 31; i++) {
            z.word(0, 1);
        }
        z.word(0, w("aaaaaa"));
        c.due("10: too long a row ahead of too long a word", z.run(), -3);
        c.due("10: nothing is matched behind a fault", z.count(4), 31);
    }

    private static void at() {
        CopyReplace x = new CopyReplace();
        tell(x, 0, "a . * zzzzzz");
        c.noneAt("11: without a run", x, 0);
        x.run();
        c.row("11", x, 1, 0, -1, w("zzzzzz"));
        c.noneAt("11: below", x, -1);
        c.noneAt("11: far below", x, Integer.MIN_VALUE);
        c.noneAt("11: far above", x, Integer.MAX_VALUE);
        c.noneAt("11: 300", x, 300);
        tell(x, 0, "b");
        c.row("11: a row stays up to the next run", x, 1, 0, -1, w("zzzzzz"));
        x.run();
        c.row("11: the next run", x, 1, 0, -1, w("zzzzzz"), 2);
        x.copy(0, 1, false);
        x.run();
        c.noneAt("11: a fault", x, 0);
    }

    private static void place() {
        CopyReplace x = new CopyReplace();
        x.library(1);
        x.library(2);
        x.library(3);
        tell(x, 3, "a .");
        x.off(2);
        x.copy(2, 3, false);
        tell(x, 2, "b");
        x.copy(1, 2, true);
        tell(x, 1, "c");
        x.copy(0, 1, false);
        tell(x, 0, "*");
        c.due("12: without a run", x.place(0, 0), NONE);
        c.due("12: run()", x.run(), 5);
        c.place("12: by three copies", x, 0, 3, 0, 0, 1, 3);
        c.place("12: a separator", x, 1, 3, 1, 0, 1, 3);
        c.place("12: by two copies", x, 2, 2, 2, 0, 1, 2);
        c.place("12: by a copy that is not suppressed", x, 3, 1, 1, 0, 0, 1);
        c.place("12: of the source", x, 4, 0, 1, 0, 0, 0);
        int[] others = {-1, 5, Integer.MAX_VALUE, Integer.MIN_VALUE};
        for (int other : others) {
            c.due("12: place(0, " + other + ")", x.place(0, other), NONE);
            c.due("12: place(" + other + ", 0)", x.place(other, 0), NONE);
        }
        c.due("12: place(300, 4)", x.place(300, 4), NONE);
    }

    private static void placeByPhrases() {
        CopyReplace x = new CopyReplace();
        x.library(1);
        tell(x, 1, "a b");
        tell(x, 0, "z");
        int copy = x.copy(0, 1, true);
        x.off(0);
        int replace = x.replace(0);
        tell(x, 0, "c . d");
        x.copy(0, 1, true);
        int of = tellPhrase(x, copy, 0, "a b", "p . q");
        int row = tellPhrase(x, replace, 0, "c d a", "x y");
        c.due("12: what phrases put", x.run(), 7);
        c.place("12: not put", x, 0, 0, 0, 0, 0, 0);
        c.place("12: the first put", x, 1, 1, 0, of, 1, 1);
        c.place("12: a separator put", x, 2, 1, 0, of, 1, 1);
        c.place("12: the last put", x, 3, 1, 0, of, 1, 1);
        c.place("12: put over the source and a copy", x, 4, 0, 4, row, 0, 0);
        c.place("12: put over the source and a copy, next", x, 5, 0, 4, row, 0, 0);
        c.place("12: behind", x, 6, 1, 1, 0, 1, 1);

        CopyReplace y = new CopyReplace();
        y.library(1);
        tell(y, 1, "a ab ba c");
        int copied = y.copy(0, 1, false);
        y.word(0, w("xe"));
        int leading = tellPhrase(y, copied, 1, "a", "x");
        int trailing = tellPhrase(y, copied, 2, "a", "x");
        int whole = tellPhrase(y, copied, 0, "c", "d");
        c.due("12: parts", y.run(), 5);
        c.place("12: no part", y, 0, 1, 0, 0, 0, 1);
        c.place("12: a leading part", y, 1, 1, 1, leading, 0, 1);
        c.place("12: a trailing part", y, 2, 1, 2, trailing, 0, 1);
        c.place("12: a whole word", y, 3, 1, 3, whole, 0, 1);
        CopyReplace z = new CopyReplace();
        z.library(1);
        tell(z, 1, "ab c e");
        z.replace(0);
        z.copy(0, 1, false);
        int early = tellPhrase(z, 2, 2, "b", "y");
        int earlyWhole = tellPhrase(z, 2, 0, "c", "d e");
        int late = tellPhrase(z, 1, 1, "a", "x");
        int lateWhole = tellPhrase(z, 1, 0, "d", "f");
        c.due("12: put twice", z.run(), 4);
        c.row("12: put twice", z, numbers("xy f e e"));
        c.place("12: a part put behind another", z, 0, 1, 0, late, 0, 1);
        c.place("12: a word put behind another", z, 1, 1, 1, lateWhole, 0, 1);
        c.place("12: a word put once", z, 2, 1, 1, earlyWhole, 0, 1);
        c.place("12: a word not put", z, 3, 1, 2, 0, 0, 1);
        c.due("12: the phrases differ", early, 1);
        placeOfTheLatestRun();
    }

    private static void placeOfTheLatestRun() {
        CopyReplace x = new CopyReplace();
        x.library(1);
        tell(x, 1, "a");
        int copy = x.copy(0, 1, true);
        tell(x, 0, "b");
        int p = tellPhrase(x, copy, 0, "a", "c d");
        c.due("12: a first run", x.run(), 3);
        c.place("12: put by the first run", x, 1, 1, 0, p, 1, 1);
        x.from(p, w("z"));
        c.due("12: a run in which the phrase does not match", x.run(), 2);
        c.place("12: copied, not put", x, 0, 1, 0, 0, 1, 1);
        c.place("12: nothing is left of the first run", x, 1, 0, 1, 0, 0, 0);
    }

    private static void ring() {
        CopyReplace x = new CopyReplace();
        int[] names = {40, 0, 20, 30};
        for (int name : names) {
            x.library(name);
        }
        x.copy(0, 40, false);
        x.copy(1, 0, false);
        x.copy(2, 20, false);
        x.copy(3, 30, false);
        c.due("13: no ring yet", x.run(), 0);
        c.due("13: ring(0) without a ring", x.ring(0), NONE);
        x.copy(4, 0, false);
        c.due("13: a ring behind a text", x.run(), NONE);
        int[] ring = {0, 20, 30, NONE};
        for (int i = 0; i < ring.length; i++) {
            c.due("13: ring(" + i + ")", x.ring(i), ring[i]);
        }
        c.due("13: ring(-1)", x.ring(-1), NONE);
        c.due("13: far below", x.ring(Integer.MIN_VALUE), NONE);
        c.due("13: far above", x.ring(Integer.MAX_VALUE), NONE);
        x.copy(3, 20, false);
        c.due("13: the first ring that comes", x.run(), NONE);
        c.due("13: it begins with", x.ring(0), 0);

        CopyReplace y = new CopyReplace();
        for (int name = 1; name <= 12; name++) {
            y.library(name);
            y.copy(name - 1, name, false);
        }
        c.due("13: all libraries, each in another", y.run(), 0);
        y.copy(12, 1, false);
        c.due("13: all libraries in a ring", y.run(), NONE);
        for (int i = 0; i < 12; i++) {
            c.due("13: of twelve, ring(" + i + ")", y.ring(i), i + 1);
        }
        c.due("13: of twelve, ring(12)", y.ring(12), NONE);

        CopyReplace z = new CopyReplace();
        z.library(5);
        z.copy(0, 5, false);
        z.copy(0, 5, false);
        c.due("13: a text twice is no ring", z.run(), 0);
        z.library(6);
        z.copy(0, 6, false);
        z.copy(2, 6, false);
        c.due("13: a text of itself", z.run(), NONE);
        c.due("13: of itself, ring(0)", z.ring(0), 6);
        c.due("13: of itself, ring(1)", z.ring(1), NONE);
        ringGoesByTheNextRun();
    }

    private static void ringGoesByTheNextRun() {
        CopyReplace x = new CopyReplace();
        x.library(1);
        x.library(2);
        int first = x.copy(0, 2, false);
        x.copy(0, 1, false);
        x.copy(1, 1, false);
        c.due("13: a ring", x.run(), NONE);
        c.due("13: its name", x.ring(0), 1);
        tellPhrase(x, first, 1, "a", "bb");
        c.due("13: it stays up to the next run", x.ring(0), 1);
        x.word(2, w("aaaaaa"));
        c.due("13: another fault ahead of it", x.run(), -5);
        c.due("13: the latest run had none", x.ring(0), NONE);
    }

    private static void count() {
        CopyReplace x = new CopyReplace();
        x.library(1);
        x.library(1);
        x.library(2);
        x.copy(0, 1, false);
        x.replace(0);
        x.copy(1, 2, false);
        x.off(0);
        tellPhrase(x, 1, 0, "a", "b");
        tellPhrase(x, 2, 0, "a", "b");
        tell(x, 3, "a a");
        int[] before = {3, 3, 2, 0, 0};
        int[] after = {3, 3, 2, 2, 2};
        for (int what = 0; what <= 4; what++) {
            c.due("14: before, count(" + what + ")", x.count(what), before[what]);
        }
        x.run();
        for (int what = 0; what <= 4; what++) {
            c.due("14: after, count(" + what + ")", x.count(what), after[what]);
        }
        x.run();
        c.due("14: of the latest run alone, copies", x.count(3), 2);
        c.due("14: of the latest run alone, matched", x.count(4), 2);
        int[] others = {-1, 5, Integer.MAX_VALUE, Integer.MIN_VALUE};
        for (int other : others) {
            c.due("14: count(" + other + ")", x.count(other), NONE);
        }
        x.copy(0, 9, false);
        x.copy(0, 1, false);
        c.due("14: a missing text", x.run(), -14);
        c.due("14: its copy is counted", x.count(3), 3);
        c.due("14: matched ahead of it", x.count(4), 2);
        CopyReplace y = copiesOfEmpty(10);
        y.run();
        c.due("14: none beyond 100", y.count(3), 100);
        CopyReplace z = new CopyReplace();
        z.library(1);
        z.copy(0, 1, false);
        z.copy(1, 1, false);
        z.run();
        c.due("14: the copy that makes a ring is counted", z.count(3), 2);
        CopyReplace v = new CopyReplace();
        v.replace(0);
        tellPhrase(v, 1, 1, "a", "bb");
        tell(v, 0, "ab aaaaaa ab");
        c.due("14: too long a word", v.run(), -5);
        c.due("14: its phrase is counted, none behind", v.count(4), 2);
    }
}
