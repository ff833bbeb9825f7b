/** What the terms say of matching: what it passes over and what it does not, by a copy and by a replace. */
public final class MatchingTest {
    public static void main(String[] args) {
        Sentences s = new Sentences();
        s.test("Terms 3", "MATCHING a row by phrases, from the left", MatchingTest::fromTheLeft);
        s.test("Terms 3", "separators, comments, replaces and offs stay", MatchingTest::whatStays);
        s.test("Terms 3", "At a word each phrase is tried, in their order", MatchingTest::orderOfPhrases);
        s.test("Terms 3", "One of kind 0 matches if its words, one behind the other, are this one and those behind it",
                MatchingTest::rowOfWords);
        s.test("Terms 3", "separators and comments between them aside", MatchingTest::aside);
        s.test("Terms 3", "but nothing else", MatchingTest::nothingElse);
        s.test("Terms 3", "then all these, with what was aside, are replaced by what it is to", MatchingTest::replaced);
        s.test("Terms 3", "One of kind 1, 2 matches a longer word that begins, ends with its word",
                MatchingTest::longerWord);
        s.test("Terms 3", "that part is replaced by the word that it is to", MatchingTest::partReplaced);
        s.test("Terms 3", ", or by nothing", MatchingTest::partReplacedByNothing);
        s.test("Terms 3", "It goes on behind", MatchingTest::goesOnBehind);
        s.test("Terms 3", "Without a phrase that matches the word stays", MatchingTest::wordStays);
        s.end("Terms 3");
    }

    /** One phrase: its kind, what it is from and what it is to. */
    private static String[] phrase(int kind, String from, String to) {
        return new String[] {Integer.toString(kind), from, to};
    }

    /** The row that a row becomes, be it copied by a copy with the phrases or behind a replace with them. */
    private static void due(Checks c, String row, String want, String[]... phrases) {
        Subject copied = new Subject();
        copied.library(1);
        copied.copy(0, 1);
        copied.tell(1, row);
        run(c, "copied: ", copied, row, want, phrases);
        Subject replaced = new Subject();
        replaced.replace(0);
        replaced.tell(0, row);
        run(c, "replaced: ", replaced, row, want, phrases);
    }

    private static void run(Checks c, String how, Subject x, String row, String want, String[]... phrases) {
        StringBuilder what = new StringBuilder(how).append(row).append(" by");
        for (String[] p : phrases) {
            x.phrase(1, Integer.parseInt(p[0]), p[1], p[2]);
            what.append(" (").append(String.join(", ", p)).append(')');
        }
        c.due(what.toString(), x.ran(), Letters.entries(want).length + ": " + want);
    }

    private static void fromTheLeft(Checks c) {
        due(c, "a a a", "x a", phrase(0, "a a", "x"));
        due(c, "a b a b a", "x x a", phrase(0, "a b", "x"));
        due(c, "a b c", "x c", phrase(0, "b c", "y"), phrase(0, "a b", "x"));
        due(c, "b a a a b", "b x x x b", phrase(0, "a", "x"));
    }

    private static void whatStays(Checks c) {
        due(c, ". a * . b *", ". x * . y *", phrase(0, "a", "x"), phrase(0, "b", "y"));
        due(c, ". *", ". *", phrase(0, "a", "x"), phrase(1, "a", "x"), phrase(2, "a", "x"));
        due(c, ". . * *", ". . * *", phrase(0, "a", ""));
        due(c, "", "", phrase(0, "a", "x"));
        replacesAndOffsStay(c);
    }

    /** A copy's matching leaves a replace and an off in the row: the last matching still goes by them. */
    private static void replacesAndOffsStay(Checks c) {
        Subject x = new Subject();
        x.library(1);
        int copy = x.copy(0, 1);
        x.tell(1, "a");
        int replace = x.replace(1);
        x.tell(1, "a");
        x.off(1);
        x.tell(1, "a");
        x.phrase(copy, 0, "a", "b");
        x.phrase(replace, 0, "b", "c");
        c.due("a replace and an off in a copied row", x.ran(), "3: b c b");
        c.due("matched", x.count(4), 4);
    }

    private static void orderOfPhrases(Checks c) {
        due(c, "a", "x", phrase(0, "a", "x"), phrase(0, "a", "y"));
        due(c, "a b a", "x b x", phrase(0, "a", "x"), phrase(0, "a b", "y"));
        due(c, "a b a", "y x", phrase(0, "a b", "y"), phrase(0, "a", "x"));
        due(c, "ab", "xb", phrase(1, "a", "x"), phrase(2, "b", "y"), phrase(0, "ab", "z"));
        due(c, "ab", "ay", phrase(2, "b", "y"), phrase(0, "ab", "z"), phrase(1, "a", "x"));
        due(c, "ab", "z", phrase(0, "ab", "z"), phrase(1, "a", "x"), phrase(2, "b", "y"));
        due(c, "i h a", "s r k", phrase(0, "a", "k"), phrase(0, "b", "l"), phrase(0, "c", "m"), phrase(0, "d", "n"),
                phrase(0, "e", "o"), phrase(0, "f", "p"), phrase(0, "h", "r"), phrase(0, "i", "s"));
    }

    private static void rowOfWords(Checks c) {
        String[] ten = phrase(0, "a b c d e f g h i j", "x");
        due(c, "a b c d e f g h i j", "x", ten);
        due(c, "a b c d e f g h i", "a b c d e f g h i", ten);
        due(c, "a b c d e f g h i k", "a b c d e f g h i k", ten);
        due(c, "a b c d e f g h i j k", "x k", ten);
        due(c, "b a", "b a", phrase(0, "a b", "x"));
        due(c, "a c b", "a c b", phrase(0, "a b", "x"));
        due(c, "a a b", "a x", phrase(0, "a b", "x"));
        due(c, "a", "a", phrase(0, "a b", "x"));
        due(c, "a ab", "a ab", phrase(0, "a b", "x"));
        due(c, "zzzzzz", "x", phrase(0, "zzzzzz", "x"));
    }

    private static void aside(Checks c) {
        due(c, "a . b", "x", phrase(0, "a b", "x"));
        due(c, "a * b", "x", phrase(0, "a b", "x"));
        due(c, "a . * * . b * c", "x", phrase(0, "a b c", "x"));
        due(c, "a . b", "x", phrase(0, "a . * b", "x"));
        due(c, "a b", "x", phrase(0, "a . * b", "x"));
    }

    private static void nothingElse(Checks c) {
        due(c, "a . c . b", "a . c . b", phrase(0, "a b", "x"));
        stopsAt(c, true);
        stopsAt(c, false);
    }

    /** A copied row with a replace or an off between two words: a phrase from both does not match. */
    private static void stopsAt(Checks c, boolean replace) {
        Subject x = new Subject();
        x.library(1);
        int copy = x.copy(0, 1);
        x.tell(1, "a");
        if (replace) {
            x.replace(1);
        } else {
            x.off(1);
        }
        x.tell(1, "b a b");
        x.phrase(copy, 0, "a b", "x");
        c.due(replace ? "a replace between" : "an off between", x.ran(), "3: a b x");
    }

    private static void replaced(Checks c) {
        due(c, ". a . * b . c", ". x y . c", phrase(0, "a b", "x y"));
        due(c, "* a . b *", "* *", phrase(0, "a b", ""));
        due(c, "a . b", ". * .", phrase(0, "a b", ". * ."));
        due(c, "a . c", "a . c", phrase(0, "a b", "x"));
        due(c, "a b .", "c d e f g h i j k l .", phrase(0, "a b", "c d e f g h i j k l"));
        due(c, "a * b", "a * b", phrase(0, "a b", "a * b"));
    }

    private static void longerWord(Checks c) {
        due(c, "ab abc abd", "ab xc xd", phrase(1, "ab", "x"));
        due(c, "bc abc dbc", "bc ax dx", phrase(2, "bc", "x"));
        due(c, "a b ba", "a b ba", phrase(1, "ab", "x"));
        due(c, "a b ba", "a b ba", phrase(2, "ab", "x"));
        due(c, "cab", "cab", phrase(1, "ab", "x"));
        due(c, "abc", "abc", phrase(2, "ab", "x"));
        due(c, "abcdef abcde", "xf abcde", phrase(1, "abcde", "x"));
        due(c, "abcdef bcdef", "ax bcdef", phrase(2, "bcdef", "x"));
        due(c, "zzzzzz", "zzzzzz", phrase(1, "zzzzzz", "x"), phrase(2, "zzzzzz", "x"));
    }

    private static void partReplaced(Checks c) {
        due(c, "ab", "xyzb", phrase(1, "a", "xyz"));
        due(c, "ab", "axyz", phrase(2, "b", "xyz"));
        due(c, "abcabc", "xcabc", phrase(1, "ab", "x"));
        due(c, "abcabc", "abcax", phrase(2, "bc", "x"));
        due(c, "ab", "vwxyzb", phrase(1, "a", "vwxyz"));
        due(c, "ab", "avwxyz", phrase(2, "b", "vwxyz"));
        due(c, "zzzzzz", "azzzzz", phrase(1, "z", "a"));
        due(c, "zzzzzz", "zzzzza", phrase(2, "z", "a"));
        due(c, "ab", "ab", phrase(1, "a", "a"));
    }

    private static void partReplacedByNothing(Checks c) {
        due(c, "abcdef", "bcdef", phrase(1, "a", ""));
        due(c, "abcdef", "abcde", phrase(2, "f", ""));
        due(c, "abcdef", "f", phrase(1, "abcde", ""));
        due(c, "abcdef", "a", phrase(2, "bcdef", ""));
        due(c, "aa a", "a a", phrase(1, "a", ""));
        due(c, "aa a", "a a", phrase(2, "a", ""));
    }

    private static void goesOnBehind(Checks c) {
        due(c, "a", "a a", phrase(0, "a", "a a"));
        due(c, "a b b", "a b", phrase(0, "a b", "a"));
        due(c, "a b", "b x", phrase(0, "a", "b"), phrase(0, "b", "x"));
        due(c, "a b c d", "x y", phrase(0, "a b", "x"), phrase(0, "c d", "y"));
        due(c, "aaa", "baa", phrase(1, "a", "b"), phrase(1, "b", "c"), phrase(2, "a", "d"));
        due(c, "aaa aaa", "aa aa", phrase(1, "a", ""));
        due(c, "ab b", "xb y", phrase(1, "a", "x"), phrase(0, "xb b", "z"), phrase(0, "b", "y"));
    }

    private static void wordStays(Checks c) {
        due(c, "a b zzzzzz", "a b zzzzzz");
        due(c, "a b", "a b", phrase(0, "c", "x"), phrase(1, "a", "x"), phrase(2, "b", "x"));
        due(c, "a a b", "a a b", phrase(0, "a b b", "x"));
        due(c, "a . b . c", "a . x . c", phrase(0, "b", "x"));
    }
}
