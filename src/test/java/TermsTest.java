/** What the terms say of words, texts, statements and phrases: the last that is allowed, the first that is not. */
public final class TermsTest {
    private static final int NONE = CopyReplace.NONE;

    public static void main(String[] args) {
        Sentences s = new Sentences();
        s.test("Terms 1", "A WORD is of 1 .. 6 LETTERS", TermsTest::lettersOfAWord);
        s.test("Terms 1", "1 .. 26, as a number of base 27", TermsTest::letters);
        s.test("Terms 1", "the first letter highest", TermsTest::firstLetter);
        s.test("Terms 1", "0 is a SEPARATOR", c -> separatorOrComment(c, 0));
        s.test("Terms 1", "-1 a COMMENT", c -> separatorOrComment(c, -1));
        s.test("Terms 1", "TEXT 0 is the SOURCE", TermsTest::source);
        s.test("Terms 1", "LIBRARIES are texts numbered from 1 on (at most 12)", TermsTest::libraries);
        s.test("Terms 1", "with names 0 .. 99", TermsTest::names);
        s.test("Terms 1", "of several of a name the first one told is that of the name", TermsTest::firstOfAName);
        s.test("Terms 1", "A text has ENTRIES, in their order from 0 on", TermsTest::orderOfEntries);
        s.test("Terms 1", "(at most 200)", TermsTest::mostEntries);
        s.test("Terms 1", "words, separators, comments, COPIES, REPLACES and OFFS", TermsTest::sortsOfEntries);
        s.test("Terms 2", "STATEMENTS, copies and replaces, are numbered together from 1 on",
                TermsTest::numbersOfStatements);
        s.test("Terms 2", "(at most 60)", TermsTest::mostStatements);
        s.test("Terms 2", "each with PHRASES, numbered over all from 1 on", TermsTest::numbersOfPhrases);
        s.test("Terms 2", "(at most 100;", TermsTest::mostPhrases);
        s.test("Terms 2", "8 of a statement)", TermsTest::mostPhrasesOfAStatement);
        s.test("Terms 2", "by KIND: 0 a row of words", TermsTest::kind0);
        s.test("Terms 2", "1 a LEADING part", TermsTest::kind1);
        s.test("Terms 2", "2 a TRAILING part of a word", TermsTest::kind2);
        s.test("Terms 2", "what it is FROM (one word at least;", TermsTest::fromOneWordAtLeast);
        s.test("Terms 2", "of 1, 2 just one)", TermsTest::fromJustOneWord);
        s.test("Terms 2", "what it is TO (no word or more;", TermsTest::toNoWordOrMore);
        s.test("Terms 2", "of 1, 2 one at most)", TermsTest::toOneWordAtMost);
        s.end("Terms 1", "Terms 2");
    }

    private static void lettersOfAWord(Checks c) {
        Subject x = new Subject();
        String[] words = {"a", "z", "aa", "zz", "aaa", "zzz", "aaaa", "zzzz", "aaaaa", "zzzzz", "aaaaaa", "zzzzzz"};
        for (int i = 0; i < words.length; i++) {
            c.due("word(0, " + words[i] + ")", x.word(0, Letters.word(words[i])), i + 1);
        }
        int[] ofSeven = {387420489, Letters.word("aaaaaaa"), Letters.word("azzzzzz"), Letters.word("dzzzzzz"),
            Integer.MAX_VALUE};
        for (int w : ofSeven) {
            c.due("word(0, " + w + "), of seven", x.word(0, w), -4);
        }
        c.due("the words", x.ran(), words.length + ": " + String.join(" ", words));
    }

    private static void letters(Checks c) {
        for (int first = 1; first <= 20000; first += 200) {
            Subject x = new Subject();
            int entries = 0;
            for (int w = first; w < first + 200; w++) {
                boolean isWord = !Integer.toString(w, 27).contains("0");
                entries += isWord ? 1 : 0;
                c.due("word(0, " + w + ")", x.word(0, w), isWord ? entries : -4);
            }
        }
        int unit = 1;
        for (int k = 0; k < 6; k++) {
            Subject x = new Subject();
            int withoutThis = Letters.word("zzzzzz") - 26 * unit;
            c.due("letter 1 at " + k, x.word(0, withoutThis + unit), 1);
            c.due("letter 26 at " + k, x.word(0, withoutThis + 26 * unit), 2);
            // Without its first letter it is a word of five.
            c.due("letter 0 at " + k, x.word(0, withoutThis), k == 5 ? 3 : -4);
            unit *= 27;
        }
    }

    private static void firstLetter(Checks c) {
        Subject x = new Subject();
        x.replace(0);
        x.phrase(1, 1, 1);
        x.to(1, 3);
        x.word(0, 1 * 27 + 2);
        x.word(0, 2 * 27 + 1);
        x.word(0, (1 * 27 + 5) * 27 + 1);
        c.due("run()", x.run(), 3);
        c.due("the first letter of 1 2 replaced", x.at(0), 3 * 27 + 2);
        c.due("the first letter of 2 1 stays", x.at(1), 2 * 27 + 1);
        c.due("the first letter of 1 5 1 replaced", x.at(2), (3 * 27 + 5) * 27 + 1);
    }

    /** It is an entry and what a phrase is to; it is no word; matching passes over it; and -2 is none of them. */
    private static void separatorOrComment(Checks c, int w) {
        Subject x = new Subject();
        x.replace(0);
        c.due("an entry", x.word(0, w), 2);
        c.due("no word that a phrase is from", x.phrase(1, 0, w), -4);
        x.phrase(1, 0, "a b", "c");
        c.due("what a phrase is to", x.to(1, w), 2);
        x.word(0, 1);
        x.word(0, w);
        x.word(0, 2);
        c.due("run()", x.run(), 3);
        c.due("it stays", x.at(0), w);
        c.due("passed over", x.at(1), 3);
        c.due("put", x.at(2), w);
        c.due("-2 as an entry", x.word(0, -2), -4);
        c.due("-2 as what a phrase is to", x.to(1, -2), -4);
    }

    private static void source(Checks c) {
        Subject x = new Subject();
        c.due("text 0 is there in a new object", x.word(0, 1), 1);
        c.due("text -1 is not", x.word(-1, 1), -2);
        x.library(0);
        x.tell(1, "b");
        c.due("a run makes its row and no other's", x.ran(), "1: a");
        Subject y = new Subject();
        y.copy(0, 0);
        c.due("it has no name: the name 0 is none", y.run(), -11);
    }

    private static void libraries(Checks c) {
        Subject x = new Subject();
        for (int number = 1; number <= 12; number++) {
            c.due("text " + number + " ahead", x.word(number, 1), -2);
            c.due("library " + number, x.library(number), number);
            c.due("text " + number, x.word(number, number), 1);
        }
        c.due("a 13th", x.library(13), NONE);
        c.due("text 13", x.word(13, 1), -2);
        c.due("there are", x.count(0), 12);
        x.copy(0, 12);
        x.copy(0, 1);
        c.due("the last and the first copied", x.ran(), "2: l a");
        x.copy(0, 13);
        c.due("the 13th has no text", x.run(), -13);
    }

    private static void names(Checks c) {
        for (int name : new int[] {0, 1, 98, 99}) {
            Subject x = new Subject();
            c.due("library(" + name + ")", x.library(name), 1);
            x.tell(1, "a");
            c.due("copy(0, " + name + ")", x.copy(0, name), 1);
            c.due("run()", x.ran(), "1: a");
            x.copy(1, name);
            c.due("a ring", x.run(), NONE);
            c.due("its name", x.ring(), Integer.toString(name));
        }
        for (int name : new int[] {-1, 100, Integer.MIN_VALUE, Integer.MAX_VALUE}) {
            Subject x = new Subject();
            c.due("library(" + name + ")", x.library(name), -4);
            c.due("copy(0, " + name + ")", x.copy(0, name), -4);
        }
    }

    private static void firstOfAName(Checks c) {
        Subject x = new Subject();
        x.library(4);
        x.library(7);
        x.library(7);
        x.library(4);
        x.library(7);
        x.tell(5, "e");
        x.tell(4, "d");
        x.tell(3, "c");
        x.copy(0, 7);
        c.due("the first one, though it is empty", x.ran(), "0: ");
        x.tell(2, "b");
        x.tell(1, "a");
        x.copy(0, 4);
        c.due("the first ones", x.ran(), "2: b a");
        x.copy(4, 4);
        x.copy(5, 99);
        c.due("the others are not looked at", x.ran(), "2: b a");
    }

    private static void orderOfEntries(Checks c) {
        Subject x = new Subject();
        x.library(1);
        for (int w = 1; w <= 26; w++) {
            c.due("entry " + w + " of the source", x.word(0, w), w);
            c.due("entry " + w + " of the library", x.word(1, 27 - w), w);
        }
        x.copy(0, 1);
        c.due("run()", x.run(), 52);
        for (int e = 0; e < 26; e++) {
            c.due("the source's entry " + e, x.at(e), e + 1);
            c.due("its number", x.place(e, 1), e);
            c.due("the library's entry " + e, x.at(26 + e), 26 - e);
            c.due("its number there", x.place(26 + e, 1), e);
        }
    }

    private static void mostEntries(Checks c) {
        Subject x = new Subject();
        x.library(1);
        x.tell(0, "a", 198);
        c.due("the 199th", x.word(0, 2), 199);
        c.due("the 200th", x.word(0, 3), 200);
        c.due("a 201st", x.word(0, 4), NONE);
        c.due("one more", x.word(0, 4), NONE);
        c.due("another text has its own", x.word(1, 5), 1);
        x.tell(1, "e", 198);
        c.due("the 200th there", x.word(1, 6), 200);
        c.due("a 201st there", x.word(1, 7), NONE);
        c.due("run()", x.run(), 200);
        c.due("at(198)", x.at(198), 2);
        c.due("at(199)", x.at(199), 3);
        c.due("place(199, 1)", x.place(199, 1), 199);
        c.due("at(200)", x.at(200), Subject.THROWS);
    }

    private static void sortsOfEntries(Checks c) {
        Subject x = new Subject();
        c.due("a word", x.word(0, 1), 1);
        c.due("a separator", x.word(0, 0), 2);
        c.due("a comment", x.word(0, -1), 3);
        x.copy(0, 1);
        c.due("a copy is one", x.word(0, 2), 5);
        x.replace(0);
        c.due("a replace is one", x.word(0, 3), 7);
        c.due("an off is one", x.off(0), 8);
        c.due("behind all", x.word(0, 4), 9);
        x.library(1);
        c.due("run()", x.ran(), "6: a . * b c d");
        int[] numbers = {0, 1, 2, 4, 6, 8};
        for (int i = 0; i < numbers.length; i++) {
            c.due("the number of the i-th, " + i, x.place(i, 1), numbers[i]);
        }
        for (int sort = 0; sort < 6; sort++) {
            lastEntryOfASort(c, sort);
        }
    }

    /** One of any sort may be the 200th, and none the 201st. */
    private static void lastEntryOfASort(Checks c, int sort) {
        Subject x = new Subject();
        x.tell(0, "a", 199);
        c.due("200th, of sort " + sort, add(x, sort), sort == 3 || sort == 4 ? 1 : 200);
        for (int next = 0; next < 6; next++) {
            c.due("201st, of sort " + next, add(x, next), NONE);
        }
    }

    private static int add(Subject x, int sort) {
        switch (sort) {
            case 0:
                return x.word(0, 1);
            case 1:
                return x.word(0, 0);
            case 2:
                return x.word(0, -1);
            case 3:
                return x.copy(0, 1);
            case 4:
                return x.replace(0);
            default:
                return x.off(0);
        }
    }

    private static void numbersOfStatements(Checks c) {
        Subject x = new Subject();
        x.libraries(2);
        c.due("statement 0 is none", x.phrase(0, 0, 1), -2);
        c.due("nor is 1 yet", x.phrase(1, 0, 1), -2);
        c.due("a copy", x.copy(1, 2), 1);
        c.due("a replace", x.replace(0), 2);
        c.due("an off is none", x.off(0), 2);
        c.due("a replace of another text", x.replace(2), 3);
        c.due("a copy of another text", x.copy(0, 1), 4);
        c.due("statement 4", x.phrase(4, 0, 1), 1);
        c.due("statement 5 is none yet", x.phrase(5, 0, 1), -2);
    }

    private static void mostStatements(Checks c) {
        Subject x = new Subject();
        x.libraries(3);
        for (int s = 1; s <= 60; s++) {
            c.due("statement " + s, s % 2 == 0 ? x.copy(s % 3, 3) : x.replace(s % 3), s);
        }
        for (int text = 0; text <= 3; text++) {
            c.due("a 61st, a copy of text " + text, x.copy(text, 3), NONE);
            c.due("a 61st, a replace of text " + text, x.replace(text), NONE);
        }
        c.due("there are", x.count(1), 60);
        c.due("phrases of the 60th", x.phrase(60, 0, 1), 1);
        c.due("phrases of a 61st", x.phrase(61, 0, 1), -2);
        c.due("an off is none, and goes on", x.off(3), 1);
        c.due("a word goes on", x.word(3, 1), 2);
    }

    private static void numbersOfPhrases(Checks c) {
        Subject x = new Subject();
        x.replace(0);
        x.copy(0, 1);
        x.library(1);
        c.due("phrase 0 is none", x.to(0, 1), -2);
        c.due("nor is 1 yet", x.to(1, 1), -2);
        c.due("of the second statement", x.phrase(2, 0, 1), 1);
        c.due("of the first one", x.phrase(1, 0, 2), 2);
        c.due("of the second one again", x.phrase(2, 0, 3), 3);
        c.due("phrase 4 is none yet", x.to(4, 1), -2);
        x.to(1, 4);
        x.to(2, 5);
        x.to(3, 6);
        x.tell(1, "a b c");
        c.due("each is of its statement", x.ran(), "3: d e f");
        c.due("told by their numbers", x.place(0, 2) + " " + x.place(1, 2) + " " + x.place(2, 2), "1 2 3");
    }

    private static void mostPhrases(Checks c) {
        Subject x = new Subject();
        for (int s = 1; s <= 14; s++) {
            x.replace(0);
        }
        for (int p = 1; p <= 100; p++) {
            c.due("phrase " + p, x.phrase(1 + (p - 1) / 8, 0, 1), p);
        }
        c.due("a 101st, of one that has 4", x.phrase(13, 0, 1), NONE);
        c.due("a 101st, of one that has none", x.phrase(14, 0, 1), NONE);
        c.due("there are", x.count(2), 100);
        c.due("phrase 100", x.to(100, 2), 1);
        c.due("phrase 101", x.to(101, 2), -2);
    }

    private static void mostPhrasesOfAStatement(Checks c) {
        Subject x = new Subject();
        x.replace(0);
        x.replace(0);
        for (int p = 1; p <= 8; p++) {
            c.due("phrase " + p, x.phrase(1, 0, p), p);
        }
        c.due("a 9th", x.phrase(1, 0, 9), NONE);
        c.due("of another statement", x.phrase(2, 0, 9), 9);
        for (int p = 10; p <= 16; p++) {
            c.due("of another statement", x.phrase(2, 0, p), p);
        }
        c.due("a 9th of that", x.phrase(2, 0, 17), NONE);
        x.to(16, 26);
        x.tell(0, "h i p q");
        c.due("the last phrase of all, and none beyond", x.ran(), "3: h z q");
    }

    private static void kind0(Checks c) {
        matched(c, 0, "a", "x", "a ab ba aba b", "x ab ba aba b");
        matched(c, 0, "a b", "x", "a b ab b a", "x ab b a");
    }

    private static void kind1(Checks c) {
        matched(c, 1, "a", "x", "a ab ba aba b", "a xb ba xba b");
    }

    private static void kind2(Checks c) {
        matched(c, 2, "a", "x", "a ab ba aba b", "a ab bx abx b");
    }

    private static void matched(Checks c, int kind, String from, String to, String row, String want) {
        Subject x = new Subject();
        x.replace(0);
        x.phrase(1, kind, from, to);
        x.tell(0, row);
        x.run();
        c.due("kind " + kind + " from " + from + " in " + row, x.row(), want);
    }

    private static void fromOneWordAtLeast(Checks c) {
        for (int kind = 0; kind <= 2; kind++) {
            Subject x = new Subject();
            x.replace(0);
            c.due("a phrase from a separator alone", x.phrase(1, kind, 0), -4);
            c.due("a phrase from a comment alone", x.phrase(1, kind, -1), -4);
            c.due("it is none", x.count(2), 0);
            c.due("a phrase from a word", x.phrase(1, kind, 1), 1);
        }
        matched(c, 0, "a", "x", "a b", "x b");
        matched(c, 0, "a b c d e f g h i j", "x", "a b c d e f g h i j", "x");
    }

    private static void fromJustOneWord(Checks c) {
        for (int kind = 1; kind <= 2; kind++) {
            Subject x = new Subject();
            x.replace(0);
            x.phrase(1, kind, 1);
            c.due("a second word of kind " + kind, x.from(1, 2), NONE);
            x.to(1, 24);
            x.tell(0, "aba b");
            c.due("it is from the first alone", x.ran(), kind == 1 ? "2: xba b" : "2: abx b");
        }
    }

    private static void toNoWordOrMore(Checks c) {
        matched(c, 0, "a", "", "a b a", "b");
        matched(c, 0, "a", "x", "a b a", "x b x");
        matched(c, 0, "a", "c d e f g h i j k l", "a b", "c d e f g h i j k l b");
        matched(c, 1, "a", "", "ab", "b");
        matched(c, 2, "b", "", "ab", "a");
    }

    private static void toOneWordAtMost(Checks c) {
        for (int kind = 1; kind <= 2; kind++) {
            Subject x = new Subject();
            x.replace(0);
            x.phrase(1, kind, 1);
            c.due("one word of kind " + kind, x.to(1, 24), 1);
            c.due("a second word of kind " + kind, x.to(1, 25), NONE);
            x.tell(0, "aba");
            c.due("it is to the first alone", x.ran(), kind == 1 ? "1: xba" : "1: abx");
        }
    }
}
