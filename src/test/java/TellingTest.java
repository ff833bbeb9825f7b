import java.util.function.Consumer;

/** Promises 1 to 9, sentence by sentence; each refused call leaves everything as it was. */
public final class TellingTest {
    private static final int NONE = CopyReplace.NONE;
    private static final int MIN = Integer.MIN_VALUE;
    private static final int MAX = Integer.MAX_VALUE;
    /** Twins.ofAllSorts has texts 0 .. 2, statements 1 and 2, phrases 1 .. 3. */
    private static final int[] NO_TEXTS = {-1, 3, 12, 13, MAX, MIN};
    private static final int[] NO_STATEMENTS = {0, -1, 3, 60, 61, MAX, MIN};
    private static final int[] NO_PHRASES = {0, -1, 4, 100, 101, MAX, MIN};
    private static final int[] NO_NAMES = {-1, 100, MAX, MIN};
    private static final int[] NOT_SO = {-2, 27, 54, 729, 730, 731, 14348907, 387420489, 387420490, MAX, MIN};

    public static void main(String[] args) {
        Sentences s = new Sentences();
        s.test("Promise 1", "Nothing in the source", TellingTest::nothingInTheSource);
        s.test("Promise 1", "no libraries", TellingTest::noLibraries);
        s.test("Promise 2", "A new library: its number", TellingTest::library);
        s.test("Promise 2", "-4 name is not so", TellingTest::libraryName);
        s.test("Promise 2", "NONE", TellingTest::libraryNone);
        s.test("Promise 3", "A word, separator or comment at a text's end: how many entries it has", TellingTest::word);
        s.test("Promise 3", "-2 no such text", TellingTest::wordText);
        s.test("Promise 3", "-4 w is not so", TellingTest::wordNotSo);
        s.test("Promise 3", "NONE when it has 200", TellingTest::wordNone);
        s.test("Promise 4", "A copy at a text's end: the statement", TellingTest::copy);
        s.test("Promise 4", "-2", TellingTest::copyText);
        s.test("Promise 4", "-4 (name)", TellingTest::copyName);
        s.test("Promise 4", "NONE also when there are 60", TellingTest::copyNone);
        s.test("Promise 5", "A replace at a text's end: the statement", TellingTest::replace);
        s.test("Promise 5", "-2", TellingTest::replaceText);
        s.test("Promise 5", "NONE", TellingTest::replaceNone);
        s.test("Promise 6", "An off at a text's end: how many entries it has", TellingTest::off);
        s.test("Promise 6", "-2", TellingTest::offText);
        s.test("Promise 6", "NONE", TellingTest::offNone);
        s.test("Promise 7", "A new phrase of a statement, from a word: its number", TellingTest::phrase);
        s.test("Promise 7", "-2", TellingTest::phraseStatement);
        s.test("Promise 7", "-4 kind is not 0 .. 2", TellingTest::phraseKind);
        s.test("Promise 7", "or w is no word", TellingTest::phraseWord);
        s.test("Promise 7", "NONE", TellingTest::phraseNone);
        s.test("Promise 8", "One more word that a phrase is from", TellingTest::from);
        s.test("Promise 8", "(a separator or comment adds none)", TellingTest::fromAddsNone);
        s.test("Promise 8", "how many they are", TellingTest::fromHowMany);
        s.test("Promise 8", "-2", TellingTest::fromPhrase);
        s.test("Promise 8", "-4", TellingTest::fromNotSo);
        s.test("Promise 8", "NONE there are 10", TellingTest::fromNone);
        s.test("Promise 8", "or it is of kind 1, 2", TellingTest::fromOfKind);
        s.test("Promise 9", "One more word, separator or comment that a phrase is to: how many they are",
                TellingTest::to);
        s.test("Promise 9", "-2", TellingTest::toPhrase);
        s.test("Promise 9", "-4 (1, 2: also no word)", TellingTest::toNotSo);
        s.test("Promise 9", "NONE there are 10 (1, 2: one)", TellingTest::toNone);
        s.end("Promise 1", "Promise 2", "Promise 3", "Promise 4", "Promise 5", "Promise 6", "Promise 7", "Promise 8",
                "Promise 9");
    }

    private static void nothingInTheSource(Checks c) {
        Subject x = new Subject();
        c.due("run()", x.ran(), "0: ");
        c.due("the first entry", x.word(0, 1), 1);
        c.due("what another object has is not there", new Subject().run(), 0);
        Subject y = new Subject();
        y.tell(0, "a", 200);
        c.due("200 go into it", y.run(), 200);
    }

    private static void noLibraries(Checks c) {
        Subject x = new Subject();
        c.due("count(0)", x.count(0), 0);
        c.due("text 1", x.word(1, 1), -2);
        c.due("the first one", x.library(0), 1);
        Subject y = new Subject();
        y.copy(0, 0);
        c.due("no name has a text", y.run(), -11);
        c.due("nor are there statements", y.count(1), 1);
        c.due("nor phrases", y.phrase(1, 0, 1), 1);
    }

    private static void library(Checks c) {
        Subject x = new Subject();
        for (int number = 1; number <= 12; number++) {
            c.due("library " + number, x.library(99 - number / 2), number);
            c.due("there are", x.count(0), number);
            c.due("nothing is in it", x.word(number, 1), 1);
        }
    }

    private static void libraryName(Checks c) {
        for (int name : NO_NAMES) {
            Twins.refuse(c, "library(" + name + ")", -4, s -> s.library(name));
        }
        c.due("library(0)", new Subject().library(0), 1);
        c.due("library(99)", new Subject().library(99), 1);
    }

    private static void libraryNone(Checks c) {
        Consumer<Subject> twelve = s -> s.libraries(12);
        Twins.refuse(c, "a 13th library", NONE, twelve, s -> s.library(13));
        Twins.refuse(c, "a 13th library of a name that is there", NONE, twelve, s -> s.library(1));
        Consumer<Subject> copied = s -> {
            s.libraries(12);
            s.copy(0, 13);
        };
        Twins.refuse(c, "a 13th library of a name that is copied", NONE, copied, s -> s.library(13));
        Subject x = new Subject();
        x.libraries(11);
        c.due("a 12th", x.library(12), 12);
    }

    private static void word(Checks c) {
        Subject x = new Subject();
        x.library(1);
        int[] entries = Letters.entries("a . * zzzzzz . a");
        for (int e = 0; e < entries.length; e++) {
            c.due("word(0, " + entries[e] + ")", x.word(0, entries[e]), e + 1);
            c.due("word(1, " + entries[e] + ")", x.word(1, entries[e]), e + 1);
        }
        x.copy(0, 1);
        c.due("behind a copy", x.word(0, 2), 8);
        c.due("each at the end", x.ran(), "13: a . * zzzzzz . a a . * zzzzzz . a b");
    }

    private static void wordText(Checks c) {
        for (int text : NO_TEXTS) {
            Twins.refuse(c, "word(" + text + ", 1)", -2, s -> s.word(text, 1));
        }
        Subject x = new Subject();
        x.libraries(12);
        c.due("word(12, 1)", x.word(12, 1), 1);
        c.due("word(13, 1)", x.word(13, 1), -2);
    }

    private static void wordNotSo(Checks c) {
        for (int w : NOT_SO) {
            Twins.refuse(c, "word(0, " + w + ")", -4, s -> s.word(0, w));
            Twins.refuse(c, "word(1, " + w + ")", -4, s -> s.word(1, w));
        }
    }

    private static void wordNone(Checks c) {
        Consumer<Subject> full = s -> {
            s.library(1);
            s.tell(0, "a", 200);
        };
        Twins.refuse(c, "word(0, 2) as 201st", NONE, full, s -> s.word(0, 2));
        Twins.refuse(c, "word(0, 0) as 201st", NONE, full, s -> s.word(0, 0));
        Twins.refuse(c, "word(0, -1) as 201st", NONE, full, s -> s.word(0, -1));
        Consumer<Subject> fullLibrary = s -> {
            s.library(1);
            s.copy(0, 1);
            s.tell(1, "a", 200);
        };
        Twins.refuse(c, "word(1, 2) as 201st", NONE, fullLibrary, s -> s.word(1, 2));
        Subject x = new Subject();
        x.tell(0, "a", 199);
        c.due("the 200th", x.word(0, 2), 200);
    }

    private static void copy(Checks c) {
        Subject x = new Subject();
        x.libraries(2);
        x.tell(0, "a");
        c.due("the first statement", x.copy(0, 1, false), 1);
        x.tell(0, "b");
        c.due("the second one", x.copy(1, 2, true), 2);
        x.tell(1, "c");
        x.tell(2, "d");
        c.due("the third one, of the same name", x.copy(0, 2, false), 3);
        c.due("each at the end", x.ran(), "5: a d c b d");
        c.due("they are entries", x.word(0, 5), 5);
        c.due("a name that has no text is so", x.copy(0, 50, false), 4);
    }

    private static void copyText(Checks c) {
        for (int text : NO_TEXTS) {
            Twins.refuse(c, "copy(" + text + ", 1, true)", -2, s -> s.copy(text, 1, true));
        }
        Subject x = new Subject();
        x.libraries(12);
        c.due("copy(12, 1)", x.copy(12, 1), 1);
        c.due("copy(13, 1)", x.copy(13, 1), -2);
    }

    private static void copyName(Checks c) {
        for (int name : NO_NAMES) {
            Twins.refuse(c, "copy(0, " + name + ", false)", -4, s -> s.copy(0, name, false));
            Twins.refuse(c, "copy(1, " + name + ", true)", -4, s -> s.copy(1, name, true));
        }
        Subject x = new Subject();
        c.due("copy(0, 0)", x.copy(0, 0), 1);
        c.due("copy(0, 99)", x.copy(0, 99), 2);
    }

    private static void copyNone(Checks c) {
        refusedStatements(c, "copy", (s, text) -> s.copy(text, 1, true));
    }

    /** A statement that is told to a text. */
    private interface Telling {
        int tell(Subject s, int text);
    }

    /** None beyond 60, of whichever sort they are, and none beyond 200 entries of a text. */
    private static void refusedStatements(Checks c, String what, Telling statement) {
        Consumer<Subject> copies = s -> {
            s.library(1);
            s.copies(0, 1, 60);
        };
        Twins.refuse(c, "a " + what + " behind 60 copies", NONE, copies, s -> statement.tell(s, 0));
        Twins.refuse(c, "a " + what + " of another text", NONE, copies, s -> statement.tell(s, 1));
        Consumer<Subject> replaces = s -> {
            s.library(1);
            for (int k = 0; k < 60; k++) {
                s.replace(k % 2);
            }
        };
        Twins.refuse(c, "a " + what + " behind 60 replaces", NONE, replaces, s -> statement.tell(s, 0));
        Consumer<Subject> full = s -> {
            s.library(1);
            s.tell(0, "a", 200);
        };
        Twins.refuse(c, "a " + what + " as 201st entry", NONE, full, s -> statement.tell(s, 0));
        Subject x = new Subject();
        x.library(1);
        x.copies(0, 1, 59);
        c.due("the 60th", statement.tell(x, 0), 60);
        Subject y = new Subject();
        y.tell(0, "a", 199);
        c.due("the 200th entry", statement.tell(y, 0), 1);
    }

    private static void replace(Checks c) {
        Subject x = new Subject();
        x.library(1);
        x.tell(0, "a");
        c.due("the first statement", x.replace(0), 1);
        x.tell(0, "a");
        c.due("of a library", x.replace(1), 2);
        c.due("a copy between", x.copy(0, 1), 3);
        x.tell(0, "a");
        c.due("the fourth one", x.replace(0), 4);
        x.tell(0, "a");
        c.due("they are entries", x.word(0, 0), 8);
        x.phrase(1, 0, "a", "b");
        x.phrase(2, 0, "a", "c");
        x.phrase(4, 0, "a", "d");
        c.due("each at the end", x.ran(), "5: a b c d .");
    }

    private static void replaceText(Checks c) {
        for (int text : NO_TEXTS) {
            Twins.refuse(c, "replace(" + text + ")", -2, s -> s.replace(text));
        }
        Subject x = new Subject();
        x.libraries(12);
        c.due("replace(12)", x.replace(12), 1);
        c.due("replace(13)", x.replace(13), -2);
    }

    private static void replaceNone(Checks c) {
        refusedStatements(c, "replace", Subject::replace);
    }

    private static void off(Checks c) {
        Subject x = new Subject();
        x.library(1);
        x.replace(0);
        x.tell(0, "a");
        c.due("behind a replace and a word", x.off(0), 3);
        x.tell(0, "a");
        c.due("one more", x.off(0), 5);
        c.due("of a library", x.off(1), 1);
        x.phrase(1, 0, "a", "b");
        c.due("at the end", x.ran(), "2: b a");
        c.due("it is no statement", x.count(1), 1);
        Subject y = new Subject();
        for (int e = 1; e <= 200; e++) {
            c.due("off " + e, y.off(0), e);
        }
        c.due("200 of them", y.run(), 0);
    }

    private static void offText(Checks c) {
        for (int text : NO_TEXTS) {
            Twins.refuse(c, "off(" + text + ")", -2, s -> s.off(text));
        }
        Subject x = new Subject();
        x.libraries(12);
        c.due("off(12)", x.off(12), 1);
        c.due("off(13)", x.off(13), -2);
    }

    private static void offNone(Checks c) {
        Consumer<Subject> full = s -> {
            s.phrase(s.replace(0), 0, "a", "b");
            s.tell(0, "a", 199);
        };
        Twins.refuse(c, "an off as 201st entry", NONE, full, s -> s.off(0));
        Subject x = new Subject();
        x.tell(0, "a", 199);
        c.due("the 200th entry", x.off(0), 200);
        Subject y = new Subject();
        for (int k = 0; k < 60; k++) {
            y.replace(0);
        }
        c.due("60 statements do not keep it out", y.off(0), 61);
    }

    private static void phrase(Checks c) {
        Subject x = new Subject();
        x.library(1);
        x.copy(0, 1);
        x.replace(0);
        x.tell(1, "a");
        x.tell(0, "bc db zzzzzz");
        c.due("of a replace", x.phrase(2, 1, Letters.word("b")), 1);
        c.due("of a copy", x.phrase(1, 0, Letters.word("a")), 2);
        c.due("of the replace again", x.phrase(2, 2, Letters.word("b")), 3);
        c.due("from the highest word", x.phrase(2, 0, Letters.word("zzzzzz")), 4);
        c.due("there are", x.count(2), 4);
        c.due("from their words, to nothing", x.ran(), "2: c d");
    }

    private static void phraseStatement(Checks c) {
        for (int statement : NO_STATEMENTS) {
            Twins.refuse(c, "phrase(" + statement + ", 0, 1)", -2, s -> s.phrase(statement, 0, 1));
        }
        Subject x = new Subject();
        c.due("phrase(1, 0, 1) without a statement", x.phrase(1, 0, 1), -2);
        x.copies(0, 1, 60);
        c.due("phrase(60, 0, 1)", x.phrase(60, 0, 1), 1);
        c.due("phrase(61, 0, 1)", x.phrase(61, 0, 1), -2);
    }

    private static void phraseKind(Checks c) {
        for (int kind : new int[] {-1, 3, MAX, MIN}) {
            Twins.refuse(c, "phrase(1, " + kind + ", 1)", -4, s -> s.phrase(1, kind, 1));
            Twins.refuse(c, "phrase(2, " + kind + ", 1)", -4, s -> s.phrase(2, kind, 1));
        }
        Subject x = new Subject();
        x.replace(0);
        c.due("kind 0", x.phrase(1, 0, 1), 1);
        c.due("kind 2", x.phrase(1, 2, 1), 2);
    }

    private static void phraseWord(Checks c) {
        for (int kind = 0; kind <= 2; kind++) {
            int of = kind;
            Twins.refuse(c, "phrase(1, " + kind + ", 0)", -4, s -> s.phrase(1, of, 0));
            Twins.refuse(c, "phrase(1, " + kind + ", -1)", -4, s -> s.phrase(1, of, -1));
            for (int w : NOT_SO) {
                Twins.refuse(c, "phrase(2, " + kind + ", " + w + ")", -4, s -> s.phrase(2, of, w));
            }
        }
    }

    private static void phraseNone(Checks c) {
        Consumer<Subject> eight = s -> {
            s.replace(0);
            for (int k = 1; k <= 8; k++) {
                s.phrase(1, 0, k);
            }
            s.tell(0, "h i");
        };
        Twins.refuse(c, "a 9th of a statement", NONE, eight, s -> s.phrase(1, 0, 9));
        Consumer<Subject> hundred = s -> {
            for (int k = 0; k < 100; k++) {
                s.phrase(k % 8 == 0 ? s.replace(0) : 1 + k / 8, 0, 1);
            }
            s.tell(0, "a b");
        };
        Twins.refuse(c, "a 101st", NONE, hundred, s -> s.phrase(13, 0, 2));
        Subject x = new Subject();
        hundred.accept(x);
        c.due("there are", x.count(2), 100);
    }

    private static void from(Checks c) {
        Subject x = new Subject();
        x.replace(0);
        x.phrase(1, 0, 1);
        x.phrase(1, 0, 2);
        x.tell(0, "b a b c zzzzzz");
        c.due("from one word", x.ran(), "2: c zzzzzz");
        c.due("one more", x.from(1, 2), 2);
        c.due("from two words", x.ran(), "2: c zzzzzz");
        c.due("two phrases matched", x.count(4), 2);
        x.from(1, 3);
        c.due("one more, the highest word", x.from(1, Letters.word("zzzzzz")), 4);
        c.due("from four words", x.ran(), "0: ");
        c.due("two phrases matched again", x.count(4), 2);
    }

    private static void fromAddsNone(Checks c) {
        Twins.refuse(c, "from(1, 0)", 1, s -> s.from(1, 0));
        Twins.refuse(c, "from(1, -1)", 1, s -> s.from(1, -1));
        Consumer<Subject> nine = s -> {
            s.replace(0);
            s.phrase(1, 0, "a b c d e f g h i", "x");
            s.tell(0, "a . b c d e f g h i");
        };
        Twins.refuse(c, "a separator behind 9 words", 9, nine, s -> s.from(1, 0));
        Twins.refuse(c, "a comment behind 9 words", 9, nine, s -> s.from(1, -1));
    }

    private static void fromHowMany(Checks c) {
        Subject x = new Subject();
        x.replace(0);
        x.phrase(1, 0, 1);
        x.phrase(1, 0, 1);
        for (int n = 2; n <= 10; n++) {
            c.due("a separator ahead of word " + n, x.from(1, 0), n - 1);
            c.due("word " + n, x.from(1, n), n);
            c.due("a word of the other phrase", x.from(2, n), n);
        }
        x.to(1, 24);
        x.tell(0, "a b c d e f g h i j");
        c.due("from ten words", x.ran(), "1: x");
    }

    private static void fromPhrase(Checks c) {
        for (int phrase : NO_PHRASES) {
            Twins.refuse(c, "from(" + phrase + ", 1)", -2, s -> s.from(phrase, 1));
            Twins.refuse(c, "from(" + phrase + ", 0)", -2, s -> s.from(phrase, 0));
        }
    }

    private static void fromNotSo(Checks c) {
        for (int w : NOT_SO) {
            Twins.refuse(c, "from(1, " + w + ")", -4, s -> s.from(1, w));
        }
    }

    private static void fromNone(Checks c) {
        Consumer<Subject> ten = s -> {
            s.replace(0);
            s.phrase(1, 0, "a b c d e f g h i j", "x");
            s.tell(0, "a b c d e f g h i j k");
        };
        Twins.refuse(c, "an 11th word", NONE, ten, s -> s.from(1, Letters.word("k")));
        Subject x = new Subject();
        x.replace(0);
        x.phrase(1, 0, "a b c d e f g h i", "x");
        c.due("a 10th word", x.from(1, Letters.word("j")), 10);
    }

    private static void fromOfKind(Checks c) {
        Twins.refuse(c, "from(2, 1), of kind 1", NONE, s -> s.from(2, 1));
        Twins.refuse(c, "from(3, 1), of kind 2", NONE, s -> s.from(3, 1));
    }

    private static void to(Checks c) {
        Subject x = new Subject();
        x.replace(0);
        x.phrase(1, 0, 1);
        x.phrase(1, 0, 2);
        x.phrase(1, 1, 3);
        x.phrase(1, 2, 3);
        x.tell(0, "a b cd dc");
        int[] ten = Letters.entries("p . * q . . * * r zzzzzz");
        for (int n = 1; n <= 10; n++) {
            c.due("to(1, " + ten[n - 1] + ")", x.to(1, ten[n - 1]), n);
            c.due("to(2, 5)", x.to(2, 5), n);
        }
        c.due("of kind 1", x.to(3, 6), 1);
        c.due("of kind 2", x.to(4, 7), 1);
        c.due("they are put", x.ran(), "22: p . * q . . * * r zzzzzz e e e e e e e e e e fd dg");
    }

    private static void toPhrase(Checks c) {
        for (int phrase : NO_PHRASES) {
            Twins.refuse(c, "to(" + phrase + ", 1)", -2, s -> s.to(phrase, 1));
        }
    }

    private static void toNotSo(Checks c) {
        for (int w : NOT_SO) {
            Twins.refuse(c, "to(1, " + w + ")", -4, s -> s.to(1, w));
            Twins.refuse(c, "to(2, " + w + "), of kind 1", -4, s -> s.to(2, w));
            Twins.refuse(c, "to(3, " + w + "), of kind 2", -4, s -> s.to(3, w));
        }
        for (int w = -1; w <= 0; w++) {
            int noWord = w;
            Twins.refuse(c, "to(2, " + w + "), of kind 1", -4, s -> s.to(2, noWord));
            Twins.refuse(c, "to(3, " + w + "), of kind 2", -4, s -> s.to(3, noWord));
        }
    }

    private static void toNone(Checks c) {
        Consumer<Subject> ten = s -> {
            s.replace(0);
            s.phrase(1, 0, "a", "b . c d e f g h i *");
            s.tell(0, "a k");
        };
        for (int w = -1; w <= 1; w++) {
            int more = w;
            Twins.refuse(c, "an 11th, " + w, NONE, ten, s -> s.to(1, more));
        }
        Twins.refuse(c, "a second of kind 1", NONE, s -> s.to(2, 1));
        Consumer<Subject> trailing = s -> {
            s.replace(0);
            s.phrase(1, 2, "a", "b");
            s.tell(0, "ca");
        };
        Twins.refuse(c, "a second of kind 2", NONE, trailing, s -> s.to(1, 1));
    }
}
