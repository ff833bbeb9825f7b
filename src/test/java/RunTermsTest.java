import java.util.function.Consumer;

/** What the terms say of a run, of what ends it, and of a word's place. */
public final class RunTermsTest {
    private static final int NONE = CopyReplace.NONE;

    public static void main(String[] args) {
        Sentences s = new Sentences();
        s.test("Terms 4", "A RUN makes the source's row", RunTermsTest::sourceRow);
        s.test("Terms 4", "a text's row has its entries, but for a copy the row of the text of that name",
                RunTermsTest::rowOfACopy);
        s.test("Terms 4", ", matched by the copy's phrases", RunTermsTest::copyPhrases);
        s.test("Terms 4", "then the whole row is matched part by part", RunTermsTest::partByPart);
        s.test("Terms 4", "by the phrases of a replace from it on up to the next replace or off",
                RunTermsTest::upToTheNext);
        s.test("Terms 4", "these are gone then", RunTermsTest::replacesAreGone);
        s.test("Terms 4", "what is ahead of the first one", RunTermsTest::aheadOfTheFirst);
        s.test("Terms 4", "behind an off, stays", RunTermsTest::behindAnOff);
        s.test("Terms 4", "A FAULT ends it, the first one that comes", RunTermsTest::firstFault);
        s.test("Terms 4", "a copy of a name that has no text", RunTermsTest::noText);
        s.test("Terms 4", "a RING: a text that is being made already is copied", RunTermsTest::ring);
        s.test("Terms 4", "more than 100 copies", RunTermsTest::copies);
        s.test("Terms 4", "a row, of a text", RunTermsTest::rowOfAText);
        s.test("Terms 4", "or by matching, of more than 300", RunTermsTest::rowByMatching);
        s.test("Terms 4", "a word of more than 6 letters", RunTermsTest::longWord);
        s.test("Terms 5", "A word's PLACE: the text and the entry where it stands", RunTermsTest::place);
        s.test("Terms 5", "of what phrases put: that of the first word that matched", RunTermsTest::placeOfPut);
        s.test("Terms 5", "It is SUPPRESSED if one of the copies by which it came is", RunTermsTest::suppressed);
        s.end("Terms 4", "Terms 5");
    }

    private static void sourceRow(Checks c) {
        Subject x = new Subject();
        c.due("of nothing", x.ran(), "0: ");
        x.library(1);
        x.tell(1, "b");
        c.due("a library that nothing copies", x.ran(), "0: ");
        x.tell(0, "a . *");
        c.due("of entries", x.ran(), "3: a . *");
        c.due("once more", x.ran(), "3: a . *");
    }

    private static void rowOfACopy(Checks c) {
        Subject x = new Subject();
        x.libraries(3);
        x.copy(0, 3);
        c.due("of an empty text", x.ran(), "0: ");
        x.tell(3, "c .");
        x.tell(0, "a");
        x.copy(0, 2);
        x.tell(2, "b");
        x.copy(2, 3);
        x.copy(2, 3);
        c.due("ahead, behind, within and twice", x.ran(), "8: c . a b c . c .");
        Subject y = new Subject();
        y.libraries(12);
        for (int text = 0; text < 12; text++) {
            y.word(text, text + 1);
            y.copy(text, text + 1);
            y.word(text, text + 1);
        }
        y.word(12, 13);
        c.due("all texts, each in another", y.ran(), "25: a b c d e f g h i j k l m l k j i h g f e d c b a");
        c.due("the innermost came by", y.place(12, 4), 12);
    }

    private static void copyPhrases(Checks c) {
        Subject x = new Subject();
        x.libraries(2);
        x.tell(0, "a");
        int outer = x.copy(0, 1);
        x.tell(0, "a");
        x.tell(1, "a");
        int inner = x.copy(1, 2);
        x.tell(1, "a");
        int plain = x.copy(0, 2);
        x.tell(2, "a b");
        x.phrase(outer, 0, "a", "y");
        x.phrase(outer, 0, "x", "z");
        x.phrase(inner, 0, "a", "x");
        c.due("each copy's own, the inner one's first", x.ran(), "8: a y z b y a a b");
        x.phrase(plain, 0, "b a", "q");
        c.due("none goes beyond the copied row", x.ran(), "8: a y z b y a a b");
    }

    private static void partByPart(Checks c) {
        Subject x = new Subject();
        x.library(1);
        int first = x.replace(0);
        x.tell(0, "a");
        x.copy(0, 1);
        x.tell(0, "d");
        int second = x.replace(0);
        x.tell(0, "a b");
        x.tell(1, "b . c");
        x.phrase(first, 0, "a b", "p");
        x.phrase(first, 0, "c d", "q");
        x.phrase(first, 0, "d a", "never");
        x.phrase(second, 0, "b", "r");
        c.due("over what is copied, but not over two parts", x.ran(), "5: p . q a r");
    }

    private static void upToTheNext(Checks c) {
        Subject x = new Subject();
        int first = x.replace(0);
        x.tell(0, "a b");
        int second = x.replace(0);
        x.tell(0, "a b");
        x.off(0);
        x.tell(0, "a b");
        int third = x.replace(0);
        x.tell(0, "a b");
        x.phrase(first, 0, "a", "p");
        x.phrase(second, 0, "b", "q");
        c.due("a replace without phrases ends it, too", x.ran(), "8: p b a q a b a b");
        x.phrase(third, 0, "b", "r");
        c.due("up to the end", x.ran(), "8: p b a q a b a r");
        replaceOfALibrary(c);
    }

    /** A replace that came by a copy goes on behind the copied row; an off that came so ends one of the source. */
    private static void replaceOfALibrary(Checks c) {
        Subject x = new Subject();
        x.libraries(2);
        x.tell(0, "a");
        x.copy(0, 1);
        x.tell(0, "a");
        x.copy(0, 2);
        x.tell(0, "a");
        int replace = x.replace(1);
        x.off(2);
        x.phrase(replace, 0, "a", "p");
        c.due("a replace and an off that are copied", x.ran(), "3: a p a");
    }

    private static void replacesAreGone(Checks c) {
        Subject x = new Subject();
        x.replace(0);
        c.due("a replace alone", x.ran(), "0: ");
        x.off(0);
        x.off(0);
        x.replace(0);
        c.due("replaces and offs alone", x.ran(), "0: ");
        x.tell(0, "a");
        c.due("a word behind", x.ran(), "1: a");
        c.due("its entry", x.place(0, 1), 4);
        Subject y = new Subject();
        y.library(1);
        y.copy(0, 1);
        y.replace(1);
        y.off(1);
        y.tell(1, ". *");
        c.due("those of a copied text", y.ran(), "2: . *");
    }

    private static void aheadOfTheFirst(Checks c) {
        Subject x = new Subject();
        x.tell(0, "a .");
        int replace = x.replace(0);
        x.tell(0, "a");
        x.phrase(replace, 0, "a", "p");
        c.due("ahead of a replace", x.ran(), "3: a . p");
        Subject y = new Subject();
        y.tell(0, "a *");
        y.off(0);
        y.tell(0, "a");
        c.due("ahead of an off", y.ran(), "3: a * a");
    }

    private static void behindAnOff(Checks c) {
        Subject x = new Subject();
        int replace = x.replace(0);
        x.off(0);
        x.tell(0, "a .");
        x.off(0);
        x.tell(0, "a");
        x.phrase(replace, 0, "a", "p");
        c.due("behind an off, and behind another", x.ran(), "3: a . a");
        int next = x.replace(0);
        x.tell(0, "a");
        x.phrase(next, 0, "a", "q");
        c.due("up to the next replace", x.ran(), "4: a . a q");
    }

    /** Faults that stand one behind the other: what is ahead decides, whatever sort of fault it is. */
    private static void firstFault(Checks c) {
        Subject x = new Subject();
        x.libraries(3);
        x.copy(1, 1);
        x.copy(2, 99);
        x.tell(3, "abcdef");
        int ring = x.copy(0, 1);
        x.copy(0, 2);
        x.phrase(x.copy(0, 3), 1, "a", "xy");
        c.due("a ring ahead of no text", x.run(), NONE);
        c.due("copies up to it", x.count(3), 2);
        x.tell(1, "abcdef");
        x.phrase(ring, 1, "a", "xy");
        c.due("a ring ahead of the matching of its row", x.run(), NONE);
        Subject y = new Subject();
        y.libraries(2);
        y.copy(0, 99);
        y.copy(0, 1);
        y.copy(1, 1);
        c.due("no text ahead of a ring", y.run(), -11);
        c.due("no ring is told", y.ring(0), NONE);
        longWordAheadOfNoText(c);
        longRowAheadOfNoText(c);
        longRowAndLongWord(c, "abcdef", -5);
        longRowAndLongWord(c, "abcde", -3);
        replacesComeLast(c);
    }

    private static void longWordAheadOfNoText(Checks c) {
        Subject x = new Subject();
        x.library(1);
        x.tell(1, "abcdef");
        x.phrase(x.copy(0, 1), 2, "f", "xy");
        x.copy(0, 99);
        c.due("too long a word ahead of no text", x.run(), -5);
        c.due("copies up to it", x.count(3), 1);
    }

    private static void longRowAheadOfNoText(Checks c) {
        Subject x = new Subject();
        x.library(1);
        x.tell(1, "a", 151);
        x.copies(0, 1, 2);
        x.copy(0, 99);
        c.due("too long a row ahead of no text", x.run(), -3);
        c.due("copies up to it", x.count(3), 2);
    }

    /** 30 words that become ten each; ahead of the last of them a word that a phrase may make too long. */
    private static void longRowAndLongWord(Checks c, String word, int want) {
        Subject x = new Subject();
        int replace = x.replace(0);
        x.phrase(replace, 0, "a", "b b b b b b b b b b");
        x.phrase(replace, 1, "a", "xy");
        x.tell(0, "a", 29);
        x.tell(0, word);
        x.tell(0, "a");
        x.tell(0, "abcdef");
        c.due(word + " ahead of too long a row", x.run(), want);
    }

    private static void replacesComeLast(Checks c) {
        Subject x = new Subject();
        int replace = x.replace(0);
        x.phrase(replace, 1, "a", "xy");
        x.tell(0, "abcdef");
        c.due("too long a word by a replace", x.run(), -5);
        x.copy(0, 99);
        c.due("no text comes ahead of the last matching", x.run(), -12);
    }

    private static void noText(Checks c) {
        Subject x = new Subject();
        x.library(7);
        x.copy(0, 7);
        c.due("a name that has one", x.run(), 0);
        x.copy(0, 8);
        c.due("a name that has none", x.run(), -12);
        x.copy(1, 9);
        c.due("within a copy", x.run(), -13);
        x.library(9);
        x.library(8);
        c.due("now they have", x.run(), 0);
        x.copy(2, 10);
        x.copy(3, 11);
        c.due("copied by way of the first", x.run(), -14);
        Subject y = new Subject();
        y.libraries(2);
        y.copy(2, 99);
        y.copy(0, 1);
        c.due("in a text that nothing copies", y.run(), 0);
    }

    private static void ring(Checks c) {
        Subject x = new Subject();
        x.libraries(3);
        x.copy(0, 1);
        x.copy(1, 3);
        x.copy(0, 2);
        x.copy(2, 3);
        x.copy(0, 3);
        c.due("a text that was made before is none", x.run(), 0);
        x.copy(3, 2);
        c.due("by way of another", x.run(), NONE);
        Subject y = new Subject();
        y.libraries(2);
        y.copy(1, 1);
        y.copy(2, 1);
        c.due("which nothing copies", y.run(), 0);
        y.copy(0, 2);
        c.due("a text of itself", y.run(), NONE);
        c.due("each time", y.run(), NONE);
        Subject z = new Subject();
        z.libraries(12);
        for (int text = 0; text < 12; text++) {
            z.copy(text, text + 1);
        }
        c.due("all texts, but none twice", z.run(), 0);
        z.copy(12, 1);
        c.due("all libraries", z.run(), NONE);
    }

    private static void copies(Checks c) {
        Subject x = new Subject();
        x.libraries(2);
        x.copies(1, 2, 9);
        x.copies(0, 1, 10);
        x.tell(2, "a");
        c.due("100", x.run(), 90);
        c.due("100 once more: each run has its own", x.run(), 90);
        x.copy(2, 3);
        x.library(3);
        c.due("190", x.run(), -3);
        Subject y = new Subject();
        y.libraries(2);
        y.copies(1, 2, 9);
        y.copies(0, 1, 10);
        y.copy(0, 2);
        c.due("101", y.run(), -3);
        c.due("none beyond 100 is done", y.count(3), 100);
    }

    private static void rowOfAText(Checks c) {
        Subject x = new Subject();
        x.library(1);
        x.tell(1, "a", 150);
        x.copy(0, 1);
        x.copy(0, 1);
        c.due("300", x.run(), 300);
        c.due("the last", x.at(299), 1);
        x.copy(0, 2);
        x.library(2);
        c.due("300 and an empty text", x.run(), 300);
        x.tell(2, ".");
        c.due("301, by a copy", x.run(), -3);
        textOf300And(c, "word", s -> s.tell(0, "a"));
        textOf300And(c, "separator", s -> s.tell(0, "."));
        textOf300And(c, "comment", s -> s.tell(0, "*"));
        textOf300And(c, "off", s -> s.off(0));
        textOf300And(c, "replace", s -> s.replace(0));
        rowWithin(c);
    }

    private static void textOf300And(Checks c, String what, Consumer<Subject> more) {
        Subject x = new Subject();
        x.library(1);
        x.tell(1, "a", 100);
        x.copies(0, 1, 3);
        c.due("300 without a " + what, x.run(), 300);
        more.accept(x);
        c.due("300 and a " + what, x.run(), -3);
    }

    /** A copied text's row is held to 300 ahead of its matching, however short that would make it. */
    private static void rowWithin(Checks c) {
        Subject x = new Subject();
        x.libraries(2);
        int copy = x.copy(0, 1);
        x.phrase(copy, 0, "a", "");
        x.copies(1, 2, 3);
        x.tell(2, "a", 100);
        c.due("300 within", x.run(), 0);
        c.due("all matched", x.count(4), 300);
        x.tell(1, "a");
        c.due("301 within", x.run(), -3);
        c.due("none matched", x.count(4), 0);
    }

    private static void rowByMatching(Checks c) {
        Subject x = new Subject();
        x.phrase(x.replace(0), 0, "a", "b b b b b b b b b b");
        x.tell(0, "a", 30);
        c.due("300 by a replace", x.run(), 300);
        x.tell(0, ".");
        c.due("301 by a replace", x.run(), -3);
        Subject y = new Subject();
        y.library(1);
        y.phrase(y.copy(0, 1), 0, "a", "b b b b b b b b b b");
        y.tell(1, "a", 30);
        c.due("300 by a copy", y.run(), 300);
        y.tell(1, "c");
        c.due("301 by a copy", y.run(), -3);
        for (String last : new String[] {"c", ".", "*", "a", "da", "ad"}) {
            beyond300(c, last);
        }
        overTwoParts(c);
        shorterAgain(c);
    }

    /** The first beyond 300 may be one that stays, one that a phrase puts, or one that it puts a part of. */
    private static void beyond300(Checks c, String last) {
        Subject x = new Subject();
        int replace = x.replace(0);
        x.phrase(replace, 0, "b", "c c c c c c c c c c");
        x.phrase(replace, 0, "a", "e");
        x.phrase(replace, 1, "d", "e");
        x.phrase(replace, 2, "d", "e");
        x.tell(0, "b", 29);
        x.tell(0, "c", 9);
        x.tell(0, last);
        c.due("the 300th of " + last, x.run(), 300);
        x.tell(0, last);
        c.due("the 301st of " + last, x.run(), -3);
    }

    private static void overTwoParts(Checks c) {
        Subject x = new Subject();
        x.tell(0, "c", 9);
        x.phrase(x.replace(0), 0, "a", "b b b b b b b b b b");
        x.tell(0, "a", 15);
        x.off(0);
        x.tell(0, ".");
        x.phrase(x.replace(0), 0, "a", "d d d d d d d d d d");
        x.tell(0, "a", 14);
        c.due("300 in all parts", x.run(), 300);
        x.tell(0, "*");
        c.due("301 in all parts", x.run(), -3);
    }

    /** What a copy's matching made too long is a fault, though the copy around it would make it shorter. */
    private static void shorterAgain(Checks c) {
        Subject x = new Subject();
        x.libraries(2);
        x.phrase(x.copy(0, 1), 0, "b", "");
        x.phrase(x.copy(1, 2), 0, "a", "b b b b b b b b b b");
        x.tell(2, "a", 30);
        c.due("300 made shorter", x.run(), 0);
        x.tell(2, "b");
        c.due("301 made shorter", x.run(), -3);
    }

    private static void longWord(Checks c) {
        for (int kind = 1; kind <= 2; kind++) {
            changed(c, kind, "a", "xy", "bbbba", 0);
            changed(c, kind, "a", "xy", "bbbbba", -5);
            changed(c, kind, "a", "vwxyz", "ba", 0);
            changed(c, kind, "a", "uvwxyz", "ba", -5);
            changed(c, kind, "a", "zzzzzz", "zzzzza", -5);
            changed(c, kind, "aaaaa", "z", "baaaaa", 0);
            changed(c, kind, "aaaaa", "zzzzz", "baaaaa", 0);
            changed(c, kind, "aaaaa", "zzzzzz", "baaaaa", -5);
            changed(c, kind, "a", "z", "bbbbba", 0);
        }
    }

    /** A phrase makes a word of 6 letters at most (want 0) or one of more; by a replace and by a copy. */
    private static void changed(Checks c, int kind, String from, String to, String trailing, int want) {
        String rest = trailing.substring(0, trailing.length() - from.length());
        String word = kind == 1 ? from + rest : rest + from;
        String due = want < 0 ? Integer.toString(want) : "1: " + (kind == 1 ? to + rest : rest + to);
        Subject x = new Subject();
        x.phrase(x.replace(0), kind, from, to);
        x.tell(0, word);
        c.due("kind " + kind + " " + from + " to " + to + " in " + word + " by a replace", x.ran(), due);
        Subject y = new Subject();
        y.library(1);
        y.phrase(y.copy(0, 1), kind, from, to);
        y.tell(1, word);
        c.due("kind " + kind + " " + from + " to " + to + " in " + word + " by a copy", y.ran(), due);
    }

    private static void place(Checks c) {
        Subject x = new Subject();
        x.libraries(2);
        x.copy(0, 2);
        x.tell(0, "a");
        x.copy(0, 1);
        x.replace(1);
        x.tell(1, "b");
        x.copy(1, 2);
        x.off(2);
        x.tell(2, ". *");
        x.run();
        c.due("the row", x.row(), ". * a b . *");
        String[] places = {"2 1", "2 2", "0 1", "1 1", "2 1", "2 2"};
        for (int i = 0; i < places.length; i++) {
            c.due("of the i-th, " + i, x.place(i, 0) + " " + x.place(i, 1), places[i]);
        }
    }

    private static void placeOfPut(Checks c) {
        Subject x = new Subject();
        x.libraries(2);
        x.phrase(x.replace(0), 0, "a b c", "x . y *");
        x.tell(0, ". .");
        x.copy(0, 1);
        x.tell(0, "c c");
        x.tell(1, "* a");
        x.copy(1, 2);
        x.tell(2, ". b");
        x.run();
        c.due("the row", x.row(), ". . * x . y * c");
        for (int i = 3; i <= 6; i++) {
            c.due("of the i-th, " + i, x.place(i, 0) + " " + x.place(i, 1), "1 1");
        }
        c.due("ahead", x.place(2, 0) + " " + x.place(2, 1), "1 0");
        c.due("behind", x.place(7, 0) + " " + x.place(7, 1), "0 5");
        placeOfPutAgain(c);
    }

    /** What is put keeps the place over a second matching, by words and by parts. */
    private static void placeOfPutAgain(Checks c) {
        Subject x = new Subject();
        x.library(1);
        x.phrase(x.replace(0), 0, "d e", "f");
        x.phrase(1, 1, "g", "h");
        int copy = x.copy(0, 1);
        x.tell(1, "a b c gg");
        x.phrase(copy, 0, "b", "d");
        x.phrase(copy, 0, "c", "e");
        x.phrase(copy, 2, "g", "i");
        x.run();
        c.due("the row", x.row(), "a f hi");
        c.due("of a word", x.place(1, 0) + " " + x.place(1, 1), "1 1");
        c.due("of parts", x.place(2, 0) + " " + x.place(2, 1), "1 3");
    }

    private static void suppressed(Checks c) {
        for (int k = 0; k < 8; k++) {
            Subject x = new Subject();
            x.libraries(3);
            x.copy(0, 1, (k & 1) != 0);
            x.copy(1, 2, (k & 2) != 0);
            x.copy(2, 3, (k & 4) != 0);
            x.tell(0, "a");
            x.tell(1, "b");
            x.tell(2, "c");
            x.tell(3, "d");
            c.due("run()", x.ran(), "4: d c b a");
            c.due("by three copies, " + k, x.place(0, 3), k > 0 ? 1 : 0);
            c.due("by two copies, " + k, x.place(1, 3), (k & 3) > 0 ? 1 : 0);
            c.due("by one copy, " + k, x.place(2, 3), (k & 1) > 0 ? 1 : 0);
            c.due("by none, " + k, x.place(3, 3), 0);
        }
        Subject y = new Subject();
        y.library(1);
        y.copy(0, 1, true);
        y.copy(0, 1, false);
        y.tell(1, "a .");
        y.run();
        c.due("of one text by two copies", y.place(0, 3) + " " + y.place(1, 3) + " " + y.place(2, 3), "1 1 0");
    }
}
