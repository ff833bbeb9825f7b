/** What the document's first lines say that the class is for, each by one run of calls. */
public final class WhatItIsTest {
    public static void main(String[] args) {
        Sentences s = new Sentences();
        s.test("What it is 1", "Texts that copy others", WhatItIsTest::copying);
        s.test("What it is 1", "libraries in order", WhatItIsTest::librariesInOrder);
        s.test("What it is 1", "copies within copies", WhatItIsTest::copiesWithinCopies);
        s.test("What it is 1", "with rings refused", WhatItIsTest::rings);
        s.test("What it is 1", "replacing by words", WhatItIsTest::byWords);
        s.test("What it is 1", "by parts of words", WhatItIsTest::byParts);
        s.test("What it is 1", "replacing switched on and off", WhatItIsTest::onAndOff);
        s.test("What it is 1", "separators and comments passed over", WhatItIsTest::passedOver);
        s.test("What it is 1", "lists suppressed", WhatItIsTest::suppressed);
        s.test("What it is 1", "where each word came from", WhatItIsTest::origin);
        s.test("What it is 2", "An object is used for at most 512 calls", WhatItIsTest::fullObject);
        s.test("What it is 2", "after it has been made", WhatItIsTest::runsOfAWholeLife);
        s.test("What it is 2", "what later calls answer is free", WhatItIsTest::objectsApart);
        s.end("What it is 1", "What it is 2");
    }

    private static void copying(Checks c) {
        Subject x = new Subject();
        x.library(7);
        x.tell(1, "b c");
        x.tell(0, "a");
        x.copy(0, 7);
        x.tell(0, "d");
        c.due("a text copied into another", x.ran(), "4: a b c d");
    }

    /** The name belongs to the first library of it, whatever is told to which first. */
    private static void librariesInOrder(Checks c) {
        Subject x = new Subject();
        x.copy(0, 7);
        x.library(3);
        x.library(7);
        x.library(7);
        x.tell(3, "z");
        x.tell(1, "y");
        c.due("the first of the name is empty", x.ran(), "0: ");
        x.tell(2, "a");
        c.due("it is copied, not the second one", x.ran(), "1: a");
    }

    private static void copiesWithinCopies(Checks c) {
        Subject x = new Subject();
        x.libraries(3);
        x.tell(3, "c");
        x.copy(2, 3);
        x.tell(2, "b");
        x.copy(1, 2);
        x.copy(1, 3);
        x.copy(0, 1);
        c.due("three deep", x.ran(), "3: c b c");
        c.due("the first came by", x.place(0, 4), 3);
        c.due("the last came by", x.place(2, 4), 2);
    }

    private static void rings(Checks c) {
        Subject x = new Subject();
        x.libraries(3);
        x.copy(0, 3);
        x.copy(3, 1);
        x.copy(1, 2);
        c.due("none as yet", x.run(), 0);
        x.copy(2, 1);
        c.due("run()", x.run(), CopyReplace.NONE);
        c.due("the ring, without what led to it", x.ring(), "1 2");
    }

    private static void byWords(Checks c) {
        Subject x = new Subject();
        x.phrase(x.replace(0), 0, "a b", "c d e");
        x.tell(0, "a a b ab b a");
        c.due("words replaced", x.ran(), "7: a c d e ab b a");
    }

    private static void byParts(Checks c) {
        Subject x = new Subject();
        int replace = x.replace(0);
        x.phrase(replace, 1, "ab", "x");
        x.phrase(replace, 2, "c", "");
        x.tell(0, "abd ab dc c abc");
        c.due("parts replaced", x.ran(), "5: xd ab d c xc");
    }

    private static void onAndOff(Checks c) {
        Subject x = new Subject();
        x.tell(0, "a");
        x.phrase(x.replace(0), 0, "a", "b");
        x.tell(0, "a");
        x.off(0);
        x.tell(0, "a");
        x.phrase(x.replace(0), 0, "a", "c");
        x.tell(0, "a");
        c.due("off, on, off, on by another", x.ran(), "4: a b a c");
    }

    private static void passedOver(Checks c) {
        Subject x = new Subject();
        x.phrase(x.replace(0), 0, "a b", "c");
        x.tell(0, ". a . * b * a b .");
        c.due("those between go, the others stay", x.ran(), "5: . c * c .");
    }

    private static void suppressed(Checks c) {
        Subject x = new Subject();
        x.libraries(2);
        x.tell(2, "a");
        x.copy(1, 2);
        x.tell(1, "b");
        x.copy(0, 1, true);
        x.copy(0, 2);
        c.due("run()", x.ran(), "3: a b a");
        c.due("by a suppressed copy, at one remove", x.place(0, 3), 1);
        c.due("by a suppressed copy", x.place(1, 3), 1);
        c.due("by another copy", x.place(2, 3), 0);
    }

    private static void origin(Checks c) {
        Subject x = new Subject();
        x.libraries(1);
        x.tell(1, ". a b");
        x.phrase(x.copy(0, 1, true), 0, "b", "c");
        x.tell(0, "d");
        c.due("run()", x.ran(), "4: . a c d");
        c.due("text, entry, phrase, suppressed, copies of a", x.place(1), "1 1 0 1 1");
        c.due("of c", x.place(2), "1 2 1 1 1");
        c.due("of d", x.place(3), "0 1 0 0 0");
    }

    /** An object as full as it gets answers rightly up to its 512th call. */
    private static void fullObject(Checks c) {
        Subject x = new Subject();
        x.libraries(12);
        x.copies(0, 12, 30);
        for (int k = 0; k < 30; k++) {
            x.replace(0);
        }
        for (int p = 0; p < 100; p++) {
            x.phrase(1 + p / 8, p % 3, 1);
        }
        x.tell(0, "b", 140);
        x.tell(12, "c");
        c.due("run()", x.run(), 170);
        for (int i = 0; x.callsLeft() > 2; i++) {
            int of = i % 170;
            c.due("at(" + of + ") with " + x.callsLeft() + " calls left", x.at(of), of < 30 ? 3 : 2);
        }
        c.due("the 511th call, run()", x.run(), 170);
        c.due("the 512th call, count(3)", x.count(3), 30);
    }

    /** The 512 may all be runs: each leaves the object as the one before. */
    private static void runsOfAWholeLife(Checks c) {
        Subject x = new Subject();
        x.libraries(2);
        x.tell(2, "a b");
        x.copy(1, 2, true);
        x.copy(0, 1);
        x.phrase(2, 0, "a b", "c");
        while (x.callsLeft() > 3) {
            c.due("run() with " + x.callsLeft() + " calls left", x.run(), 1);
        }
        c.due("the 510th call, at(0)", x.at(0), 3);
        c.due("the 511th call, place(0, 3)", x.place(0, 3), 1);
        c.due("the 512th call, count(4)", x.count(4), 1);
    }

    /** What one object is called, even beyond its 512th call, is nothing to another. */
    private static void objectsApart(Checks c) {
        CopyReplace old = new CopyReplace();
        Subject x = new Subject();
        x.library(1);
        x.copy(0, 1);
        x.tell(1, "a");
        for (int k = 0; k < 600; k++) {
            old.library(1);
            old.word(1, 2);
            old.copy(0, 1, true);
            old.run();
        }
        c.due("another object", x.ran(), "1: a");
        c.due("its first word", x.place(0), "1 0 0 0 1");
        c.due("its libraries", x.count(0), 1);
        c.due("a new one", new Subject().ran(), "0: ");
    }
}
