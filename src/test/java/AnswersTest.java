/** Promises 10 to 14, sentence by sentence; what only asks leaves everything as it was. */
public final class AnswersTest {
    private static final int NONE = CopyReplace.NONE;
    private static final int MIN = Integer.MIN_VALUE;
    private static final int MAX = Integer.MAX_VALUE;

    public static void main(String[] args) {
        Sentences s = new Sentences();
        s.test("Promise 10", "A run: how many words, separators and comments the row has", AnswersTest::howMany);
        s.test("Promise 10", "By a fault there is none", AnswersTest::noRow);
        s.test("Promise 10", "NONE a ring", AnswersTest::ringAnswer);
        s.test("Promise 10", "-10 minus the copy whose name has no text", AnswersTest::noTextAnswer);
        s.test("Promise 10", "-3 too many copies", AnswersTest::tooManyCopies);
        s.test("Promise 10", "or too long a row", AnswersTest::tooLongARow);
        s.test("Promise 10", "-5 too long a word", AnswersTest::tooLongAWord);
        s.test("Promise 11", "The i-th of the row of the latest run, from 0 on", AnswersTest::at);
        s.test("Promise 11", "ArrayIndexOutOfBoundsException when there is none such", AnswersTest::atThrows);
        s.test("Promise 12", "Of the i-th: what = 0 its text", AnswersTest::textOf);
        s.test("Promise 12", "1 its entry", AnswersTest::entryOf);
        s.test("Promise 12", "2 the phrase that put it, or its last part, latest", AnswersTest::phraseOf);
        s.test("Promise 12", "(0 none)", AnswersTest::noPhraseOf);
        s.test("Promise 12", "3 whether it is suppressed", AnswersTest::suppressedOf);
        s.test("Promise 12", "4 how many copies it came by", AnswersTest::copiesOf);
        s.test("Promise 12", "NONE for others", AnswersTest::placeOfOthers);
        s.test("Promise 12", "or without it", AnswersTest::placeWithout);
        s.test("Promise 13", "Of the ring that ended the latest run", AnswersTest::ringOfTheLatest);
        s.test("Promise 13", "the name of the i-th text in it, each copying the next one", AnswersTest::ringNames);
        s.test("Promise 13", "from that on which is copied again", AnswersTest::ringStart);
        s.test("Promise 13", "NONE when there is none", AnswersTest::ringNone);
        s.test("Promise 14", "what = 0 libraries", AnswersTest::countLibraries);
        s.test("Promise 14", "1 statements", AnswersTest::countStatements);
        s.test("Promise 14", "2 phrases", AnswersTest::countPhrases);
        s.test("Promise 14", "3 copies done by the latest run", AnswersTest::countCopies);
        s.test("Promise 14", "(up to its fault, that one counted", AnswersTest::countCopiesUpToAFault);
        s.test("Promise 14", "but none beyond 100)", AnswersTest::countCopiesUpTo100);
        s.test("Promise 14", "4 phrases that matched in it", AnswersTest::countMatches);
        s.test("Promise 14", "(also one by which a word is too long)", AnswersTest::countMatchOfALongWord);
        s.test("Promise 14", "NONE for others", AnswersTest::countOfOthers);
        s.end("Promise 10", "Promise 11", "Promise 12", "Promise 13", "Promise 14");
    }

    private static void howMany(Checks c) {
        Subject x = new Subject();
        c.due("of nothing", x.run(), 0);
        x.tell(0, "a");
        c.due("a word", x.run(), 1);
        x.tell(0, ". *");
        c.due("with a separator and a comment", x.run(), 3);
        x.replace(0);
        x.off(0);
        c.due("a replace and an off are none", x.run(), 3);
        x.library(1);
        int copy = x.copy(0, 1);
        c.due("nor is a copy", x.run(), 3);
        x.tell(1, "b .");
        c.due("with what is copied", x.run(), 5);
        x.phrase(copy, 0, "b", "p q r");
        c.due("with what is put", x.run(), 7);
        Subject y = new Subject();
        y.library(1);
        y.copies(0, 1, 3);
        y.tell(1, "a", 100);
        c.due("300", y.run(), 300);
    }

    /** One object for each sort of fault, its last entry the one that is at fault; a run ahead of that had a row. */
    private static Subject ofRing(boolean faulty) {
        Subject x = new Subject();
        x.library(1);
        x.tell(0, "a");
        x.copy(0, 1);
        if (faulty) {
            x.run();
            x.copy(1, 1);
        }
        return x;
    }

    private static Subject ofNoText(boolean faulty) {
        Subject x = new Subject();
        x.tell(0, "a");
        if (faulty) {
            x.run();
            x.copy(0, 1);
        }
        return x;
    }

    private static Subject ofCopies(boolean faulty) {
        Subject x = new Subject();
        x.libraries(2);
        x.tell(0, "a");
        x.copies(1, 2, 9);
        x.copies(0, 1, 10);
        if (faulty) {
            x.run();
            x.copy(0, 2);
        }
        return x;
    }

    private static Subject ofRow(boolean faulty) {
        Subject x = new Subject();
        x.library(1);
        x.tell(1, "a", 150);
        x.copies(0, 1, 2);
        if (faulty) {
            x.run();
            x.tell(0, ".");
        }
        return x;
    }

    private static Subject ofWord(boolean faulty) {
        Subject x = new Subject();
        x.phrase(x.replace(0), 1, "a", "xy");
        x.tell(0, "abcde");
        if (faulty) {
            x.run();
            x.tell(0, "abcdef");
        }
        return x;
    }

    private static Subject[] ofAllFaults(boolean faulty) {
        return new Subject[] {ofRing(faulty), ofNoText(faulty), ofCopies(faulty), ofRow(faulty), ofWord(faulty)};
    }

    private static void noRow(Checks c) {
        int[] faults = {NONE, -11, -3, -3, -5};
        Subject[] subjects = ofAllFaults(true);
        for (int k = 0; k < faults.length; k++) {
            Subject x = subjects[k];
            c.due("the run before has a row, " + k, x.at(0) != Subject.THROWS, true);
            c.due("run(), fault " + k, x.run(), faults[k]);
            c.due("at(0), fault " + k, x.at(0), Subject.THROWS);
            c.due("place(0), fault " + k, x.place(0), "-1 -1 -1 -1 -1");
            c.due("run() again, fault " + k, x.run(), faults[k]);
        }
        int[] rows = {1, 1, 1, 300, 1};
        Subject[] fine = ofAllFaults(false);
        for (int k = 0; k < rows.length; k++) {
            c.due("run() without the fault, " + k, fine[k].run(), rows[k]);
        }
        rowBehindAFault(c);
    }

    private static void rowBehindAFault(Checks c) {
        Subject x = ofNoText(true);
        c.due("a fault", x.run(), -11);
        x.library(1);
        x.tell(1, "b");
        c.due("what was told is still there", x.ran(), "2: a b");
        c.due("and its place", x.place(1), "1 0 0 0 1");
    }

    private static void ringAnswer(Checks c) {
        c.due("a ring", ofRing(true).run(), -1);
        c.due("none", ofRing(false).run(), 1);
    }

    private static void noTextAnswer(Checks c) {
        Subject x = new Subject();
        x.copy(0, 99);
        c.due("copy 1", x.run(), -11);
        Subject y = new Subject();
        y.library(1);
        y.replace(0);
        y.copy(0, 1);
        y.copy(1, 2);
        c.due("copy 3: the statement, not the entry", y.run(), -13);
        Subject z = new Subject();
        z.library(1);
        z.copies(1, 1, 59);
        z.copy(0, 0);
        c.due("copy 60", z.run(), -70);
        c.due("the first that comes", twoWithoutText().run(), -12);
    }

    /** Copy 2 stands in a text that the source copies ahead of copy 1. */
    private static Subject twoWithoutText() {
        Subject x = new Subject();
        x.library(1);
        x.library(2);
        x.copy(2, 8);
        x.copy(1, 9);
        x.copy(0, 1);
        x.copy(0, 2);
        return x;
    }

    private static void tooManyCopies(Checks c) {
        c.due("101", ofCopies(true).run(), -3);
        c.due("100", ofCopies(false).run(), 1);
    }

    private static void tooLongARow(Checks c) {
        c.due("301", ofRow(true).run(), -3);
        c.due("300", ofRow(false).run(), 300);
        Subject x = new Subject();
        x.phrase(x.replace(0), 0, "a", "b b b b b b b b b b");
        x.tell(0, "a", 31);
        c.due("310 by matching", x.run(), -3);
    }

    private static void tooLongAWord(Checks c) {
        c.due("of 7 letters", ofWord(true).run(), -5);
        c.due("of 6 letters", ofWord(false).run(), 1);
    }

    private static void at(Checks c) {
        Subject x = new Subject();
        x.tell(0, "a . * zzzzzz");
        x.run();
        int[] row = Letters.entries("a . * zzzzzz");
        for (int i = 0; i < row.length; i++) {
            c.due("at(" + i + ")", x.at(i), row[i]);
        }
        x.tell(0, "b");
        c.due("it stays up to the next run", x.row(), "a . * zzzzzz");
        x.library(1);
        x.phrase(x.copy(0, 1), 0, "c", "d");
        x.tell(1, "c");
        c.due("whatever is told", x.row(), "a . * zzzzzz");
        x.run();
        c.due("the latest run", x.row(), "a . * zzzzzz b d");
        Subject y = ofRow(false);
        y.run();
        c.due("at(299)", y.at(299), 1);
    }

    private static void atThrows(Checks c) {
        Subject x = new Subject();
        x.tell(0, "a b");
        c.due("at(0) without a run", x.at(0), Subject.THROWS);
        x.run();
        c.due("at(1)", x.at(1), 2);
        c.due("at(2)", x.at(2), Subject.THROWS);
        for (int i : new int[] {-1, 299, 300, MAX, MIN}) {
            c.due("at(" + i + ")", x.at(i), Subject.THROWS);
            Twins.refuse(c, "at(" + i + ")", Subject.THROWS, s -> s.at(i));
        }
        Subject empty = new Subject();
        empty.run();
        c.due("at(0) of an empty row", empty.at(0), Subject.THROWS);
        Subject full = ofRow(false);
        full.run();
        c.due("at(300) of a full row", full.at(300), Subject.THROWS);
        Subject shorter = new Subject();
        shorter.phrase(shorter.replace(0), 0, 1);
        shorter.tell(0, "a b c");
        shorter.run();
        c.due("at(2) of a row that had three", shorter.at(2), Subject.THROWS);
        shorter.from(1, 2);
        shorter.from(1, 3);
        shorter.run();
        c.due("at(0) of a row that had two", shorter.at(0), Subject.THROWS);
    }

    /** The source and all libraries, each with a separator and a copy of the next one, and a word behind. */
    private static Subject ofAllTexts() {
        Subject x = new Subject();
        x.libraries(12);
        for (int text = 0; text <= 12; text++) {
            x.tell(text, ".");
            if (text < 12) {
                x.copy(text, text + 1, text == 6);
            }
            x.tell(text, "a");
        }
        x.run();
        return x;
    }

    private static void textOf(Checks c) {
        Subject x = ofAllTexts();
        for (int i = 0; i < 26; i++) {
            c.due("place(" + i + ", 0)", x.place(i, 0), i <= 12 ? i : 25 - i);
        }
    }

    private static void entryOf(Checks c) {
        Subject x = ofAllTexts();
        for (int i = 0; i < 26; i++) {
            c.due("place(" + i + ", 1)", x.place(i, 1), i <= 12 ? 0 : i == 13 ? 1 : 2);
        }
        Subject y = new Subject();
        y.tell(0, "a", 200);
        y.run();
        c.due("the last of all", y.place(199, 1), 199);
    }

    private static void phraseOf(Checks c) {
        Subject x = new Subject();
        x.library(1);
        int replace = x.replace(0);
        int copy = x.copy(0, 1);
        x.tell(1, "a ab ba c d . de");
        int word = x.phrase(copy, 0, "a", "p . *");
        int leading = x.phrase(copy, 1, "a", "q");
        int trailing = x.phrase(copy, 2, "a", "r");
        int again = x.phrase(replace, 0, "c", "s");
        int over = x.phrase(replace, 0, "d", "p");
        x.phrase(copy, 0, "d", "d");
        int part = x.phrase(replace, 1, "b", "t");
        c.due("run()", x.ran(), "9: p . * qb tr s p . de");
        int[] put = {word, word, word, leading, part, again, over, 0, 0};
        for (int i = 0; i < put.length; i++) {
            c.due("place(" + i + ", 2)", x.place(i, 2), put[i]);
        }
        c.due("another phrase put a part of it before", trailing, 3);
        Subject y = new Subject();
        for (int k = 0; k < 100; k++) {
            y.phrase(k % 8 == 0 ? y.replace(0) : 1 + k / 8, 0, 1 + k % 8);
        }
        y.to(100, 26);
        y.tell(0, "d");
        y.run();
        c.due("the last phrase of all", y.place(0, 2), 100);
    }

    private static void noPhraseOf(Checks c) {
        Subject x = new Subject();
        x.phrase(x.replace(0), 0, "a", "b");
        x.tell(0, "a . b * c");
        x.run();
        int[] put = {1, 0, 0, 0, 0};
        for (int i = 0; i < put.length; i++) {
            c.due("place(" + i + ", 2)", x.place(i, 2), put[i]);
        }
        x.from(1, 3);
        x.run();
        c.due("put by the run before alone", x.place(0, 2), 0);
        Subject y = new Subject();
        y.library(1);
        y.phrase(y.copy(0, 1), 0, "a", "b b");
        y.tell(0, "c");
        y.tell(1, "a");
        y.run();
        c.due("put by a copy", y.place(1, 2), 1);
        y.from(1, 3);
        y.run();
        c.due("an entry where the run before had what is put", y.place(1, 2), 0);
    }

    private static void suppressedOf(Checks c) {
        Subject x = ofAllTexts();
        for (int i = 0; i < 26; i++) {
            int text = i <= 12 ? i : 25 - i;
            c.due("place(" + i + ", 3)", x.place(i, 3), text > 6 ? 1 : 0);
        }
        Subject y = new Subject();
        y.library(1);
        y.phrase(y.copy(0, 1, true), 0, "a", "b .");
        y.tell(1, "a *");
        y.run();
        c.due("what is put", y.place(0, 3) + " " + y.place(1, 3) + " " + y.place(2, 3), "1 1 1");
    }

    private static void copiesOf(Checks c) {
        Subject x = ofAllTexts();
        for (int i = 0; i < 26; i++) {
            c.due("place(" + i + ", 4)", x.place(i, 4), i <= 12 ? i : 25 - i);
        }
        Subject y = new Subject();
        y.libraries(2);
        y.copies(0, 2, 3);
        y.copy(0, 1);
        y.copy(1, 2);
        y.tell(2, "a");
        y.run();
        c.due("the third copy of a text", y.place(2, 4), 1);
        c.due("the same text by way of another", y.place(3, 4), 2);
    }

    private static void placeOfOthers(Checks c) {
        for (int what : new int[] {-1, 5, MAX, MIN}) {
            Twins.refuse(c, "place(0, " + what + ")", NONE, s -> s.place(0, what));
        }
        Subject x = ofAllTexts();
        c.due("place(12, 4)", x.place(12, 4), 12);
        c.due("place(12, 5)", x.place(12, 5), NONE);
        c.due("place(12, 0)", x.place(12, 0), 12);
        c.due("place(12, -1)", x.place(12, -1), NONE);
    }

    private static void placeWithout(Checks c) {
        for (int i : new int[] {-1, 26, 300, MAX, MIN}) {
            c.due("place(" + i + ")", ofAllTexts().place(i), "-1 -1 -1 -1 -1");
            Twins.refuse(c, "place(" + i + ", 0)", NONE, s -> s.place(i, 0));
        }
        c.due("place(25)", ofAllTexts().place(25), "0 2 0 0 0");
        Subject x = new Subject();
        x.tell(0, "a");
        c.due("place(0) without a run", x.place(0), "-1 -1 -1 -1 -1");
        Subject full = ofRow(false);
        full.run();
        c.due("place(299)", full.place(299), "1 149 0 0 1");
        c.due("place(300)", full.place(300), "-1 -1 -1 -1 -1");
    }

    private static void ringOfTheLatest(Checks c) {
        Subject x = new Subject();
        x.library(1);
        int first = x.copy(0, 2);
        x.copy(0, 1);
        x.copy(1, 1);
        c.due("no text ahead of a ring", x.run(), -11);
        c.due("no ring", x.ring(), "");
        x.library(2);
        c.due("the ring", x.run(), NONE);
        c.due("its names", x.ring(), "1");
        x.tell(2, "abcdef");
        x.phrase(first, 1, "a", "xy");
        c.due("it stays up to the next run", x.ring(), "1");
        c.due("a long word ahead of it", x.run(), -5);
        c.due("no ring any more", x.ring(), "");
        anotherRing(c);
    }

    private static void anotherRing(Checks c) {
        Subject x = new Subject();
        x.libraries(3);
        x.copy(0, 1);
        x.copy(1, 2);
        x.copy(2, 3);
        x.copy(0, 3);
        x.run();
        c.due("no ring", x.ring(), "");
        x.copy(1, 1);
        x.run();
        c.due("a ring of one", x.ring(), "1");
        x.copy(3, 1);
        x.run();
        c.due("a longer one ahead of it", x.ring(), "1 2 3");
    }

    private static void ringNames(Checks c) {
        Subject x = new Subject();
        int[] names = {99, 0, 50};
        for (int name : names) {
            x.library(name);
        }
        x.copy(0, 50);
        x.copy(3, 99);
        x.copy(1, 0);
        x.copy(2, 50);
        x.run();
        c.due("by their names", x.ring(), "50 99 0");
        Subject y = new Subject();
        y.libraries(12);
        for (int text = 0; text < 12; text++) {
            y.copy(text, text + 1);
        }
        y.copy(12, 1);
        y.run();
        c.due("of all libraries", y.ring(), "1 2 3 4 5 6 7 8 9 10 11 12");
    }

    private static void ringStart(Checks c) {
        for (int again = 1; again <= 5; again++) {
            Subject x = new Subject();
            x.libraries(5);
            for (int text = 0; text < 5; text++) {
                x.copy(text, text + 1);
            }
            x.copy(5, again);
            c.due("run()", x.run(), NONE);
            c.due("5 copies " + again, x.ring(), "1 2 3 4 5".substring(2 * (again - 1)));
        }
        Subject y = new Subject();
        y.libraries(3);
        y.copy(0, 3);
        y.copy(0, 1);
        y.copy(1, 3);
        y.copy(1, 2);
        y.copy(2, 1);
        y.run();
        c.due("those that are done are not in it", y.ring(), "1 2");
    }

    private static void ringNone(Checks c) {
        Subject x = ofRing(true);
        c.due("ring(0) ahead of the run", x.ring(0), NONE);
        x.run();
        c.due("ring(0)", x.ring(0), 1);
        for (int i : new int[] {-1, 1, 12, 13, MAX, MIN}) {
            c.due("ring(" + i + ")", x.ring(i), NONE);
            Twins.refuse(c, "ring(" + i + ")", NONE, s -> s.ring(i));
        }
        c.due("ring(0) of a new object", new Subject().ring(0), NONE);
        Subject[] faults = {ofNoText(true), ofCopies(true), ofRow(true), ofWord(true), ofRing(false)};
        for (Subject s : faults) {
            c.due("run() ends by " + s.run() + ", ring(0)", s.ring(0), NONE);
        }
        Subject all = new Subject();
        all.libraries(12);
        for (int text = 0; text < 12; text++) {
            all.copy(text, text + 1);
        }
        all.copy(12, 1);
        all.run();
        c.due("ring(11) of twelve", all.ring(11), 12);
        c.due("ring(12) of twelve", all.ring(12), NONE);
    }

    private static void countLibraries(Checks c) {
        Subject x = new Subject();
        c.due("of a new object: the source is none", x.count(0), 0);
        for (int number = 1; number <= 12; number++) {
            x.library(7);
            c.due("count(0)", x.count(0), number);
        }
        x.library(7);
        x.library(-1);
        c.due("without those that were refused", x.count(0), 12);
    }

    private static void countStatements(Checks c) {
        Subject x = new Subject();
        x.library(1);
        c.due("of a new object", x.count(1), 0);
        for (int number = 1; number <= 60; number++) {
            c.due("statement " + number, number % 3 == 0 ? x.copy(1, 2) : x.replace(number % 2), number);
            c.due("count(1)", x.count(1), number);
        }
        x.off(0);
        x.word(0, 1);
        x.copy(0, 2);
        x.replace(0);
        c.due("without those that were refused, or are none", x.count(1), 60);
    }

    private static void countPhrases(Checks c) {
        Subject x = new Subject();
        c.due("of a new object", x.count(2), 0);
        for (int k = 0; k < 100; k++) {
            x.phrase(k % 8 == 0 ? x.replace(0) : 1 + k / 8, k % 3, 1);
            c.due("count(2)", x.count(2), k + 1);
        }
        x.phrase(13, 0, 1);
        x.phrase(99, 0, 1);
        x.to(100, 1);
        c.due("without those that were refused", x.count(2), 100);
    }

    private static void countCopies(Checks c) {
        Subject x = new Subject();
        c.due("of a new object", x.count(3), 0);
        x.libraries(2);
        x.copies(0, 1, 2);
        c.due("ahead of a run", x.count(3), 0);
        x.run();
        c.due("two", x.count(3), 2);
        x.copies(1, 2, 3);
        c.due("of the latest run", x.count(3), 2);
        x.run();
        c.due("with those within", x.count(3), 8);
        x.run();
        c.due("of the latest run alone", x.count(3), 8);
        Subject y = new Subject();
        y.libraries(2);
        y.copy(1, 2);
        y.run();
        c.due("none of a text that nothing copies", y.count(3), 0);
    }

    private static void countCopiesUpToAFault(Checks c) {
        Subject ring = new Subject();
        ring.libraries(3);
        ring.copy(0, 3);
        ring.copy(0, 1);
        ring.copy(1, 2);
        ring.copy(2, 1);
        ring.copies(0, 3, 2);
        ring.run();
        c.due("up to a ring", ring.count(3), 4);
        Subject noText = new Subject();
        noText.copy(0, 1);
        noText.copy(0, 2);
        noText.run();
        c.due("up to no text, the first one", noText.count(3), 1);
        noText.library(1);
        noText.run();
        c.due("up to no text, the second one", noText.count(3), 2);
        Subject row = new Subject();
        row.library(1);
        row.tell(1, "a", 200);
        row.copies(0, 1, 4);
        row.run();
        c.due("up to too long a row", row.count(3), 2);
        Subject word = new Subject();
        word.library(1);
        word.tell(1, "abcdef");
        word.copy(0, 1);
        word.phrase(word.copy(0, 1), 1, "a", "xy");
        word.copies(0, 1, 3);
        word.run();
        c.due("up to too long a word", word.count(3), 2);
        Subject replaced = new Subject();
        replaced.library(1);
        replaced.phrase(replaced.replace(0), 1, "a", "xy");
        replaced.tell(1, "abcdef");
        replaced.copies(0, 1, 3);
        replaced.run();
        c.due("all, if a replace is at fault", replaced.count(3), 3);
    }

    private static void countCopiesUpTo100(Checks c) {
        Subject fine = ofCopies(false);
        fine.run();
        c.due("100", fine.count(3), 100);
        Subject faulty = ofCopies(true);
        faulty.run();
        c.due("101", faulty.count(3), 100);
        Subject ninetyNine = new Subject();
        ninetyNine.libraries(2);
        ninetyNine.copies(1, 2, 10);
        ninetyNine.copies(0, 1, 9);
        ninetyNine.run();
        c.due("99", ninetyNine.count(3), 99);
        ninetyNine.copy(0, 3);
        c.due("the 100th has no text", ninetyNine.run(), -30);
        c.due("it is counted", ninetyNine.count(3), 100);
    }

    private static void countMatches(Checks c) {
        Subject x = new Subject();
        c.due("of a new object", x.count(4), 0);
        x.library(1);
        int replace = x.replace(0);
        int copy = x.copy(0, 1);
        x.tell(1, "a b ab cd . e");
        x.run();
        c.due("without a phrase", x.count(4), 0);
        x.phrase(copy, 0, "a b", "p q");
        x.phrase(copy, 1, "a", "c");
        x.phrase(copy, 2, "d", "");
        x.phrase(copy, 0, "never", "e");
        c.due("ahead of the next run", x.count(4), 0);
        x.run();
        c.due("each kind, a row of words as one", x.count(4), 3);
        x.phrase(replace, 0, "p", "p");
        x.phrase(replace, 0, "e", "");
        x.run();
        c.due("also by a replace", x.count(4), 5);
        x.run();
        c.due("of the latest run alone", x.count(4), 5);
        x.copy(0, 9);
        x.run();
        c.due("up to a fault", x.count(4), 3);
        Subject many = new Subject();
        many.phrase(many.replace(0), 0, "a", "b");
        many.tell(0, "a", 199);
        many.run();
        c.due("one phrase as often as it matched", many.count(4), 199);
    }

    private static void countMatchOfALongWord(Checks c) {
        for (int kind = 1; kind <= 2; kind++) {
            Subject x = new Subject();
            x.phrase(x.replace(0), kind, "a", "xy");
            x.tell(0, "aba aaaaaa aba");
            c.due("too long a word", x.run(), -5);
            c.due("up to it, and none behind", x.count(4), 2);
        }
        Subject y = new Subject();
        y.library(1);
        y.phrase(y.copy(0, 1), 1, "a", "xy");
        y.tell(1, "aaaaaa");
        y.run();
        c.due("by a copy", y.count(4), 1);
    }

    private static void countOfOthers(Checks c) {
        for (int what : new int[] {-1, 5, MAX, MIN}) {
            Twins.refuse(c, "count(" + what + ")", NONE, s -> s.count(what));
            c.due("count(" + what + ") of a new object", new Subject().count(what), NONE);
        }
    }
}
