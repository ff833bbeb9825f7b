import java.io.IOException;
import java.nio.file.Files;
import java.nio.file.Path;
import java.util.BitSet;
import java.util.HashMap;
import java.util.Map;
import java.util.function.Consumer;

/** Tests, each of one sentence of the document; no sentence of what is asked for may be without one. */
final class Sentences {
    private static final Path DOCUMENT = Path.of("../shared/DOC.md");

    private final Checks c = new Checks();
    /** The document's paragraphs: "Terms 1", "Terms 2" by heading and number, "Promise 2" by its number. */
    private final Map<String, String> paragraphs = new HashMap<>();
    private final Map<String, BitSet> quoted = new HashMap<>();
    private int tests = 0;

    Sentences() {
        if (Files.exists(DOCUMENT)) {
            read();
        } else {
            System.out.println("there is no " + DOCUMENT + ": the sentences are not looked up in it");
        }
    }

    private void read() {
        String heading = "";
        int number = 0;
        try {
            for (String line : Files.readAllLines(DOCUMENT)) {
                if (line.startsWith("#")) {
                    heading = line.replaceFirst("#+ *", "").trim();
                    number = 0;
                } else if (!line.isBlank()) {
                    number++;
                    boolean isPromise = heading.startsWith("Promise");
                    paragraphs.put(isPromise ? heading.replaceFirst(":.*", "") : heading + " " + number, line.trim());
                }
            }
        } catch (IOException e) {
            throw new IllegalStateException("cannot read " + DOCUMENT, e);
        }
    }

    void test(String paragraph, String sentence, Consumer<Checks> test) {
        c.about(paragraph + ", '" + sentence + "'");
        tests++;
        if (!paragraphs.isEmpty()) {
            lookUp(paragraph, sentence);
        }
        test.accept(c);
    }

    private void lookUp(String paragraph, String sentence) {
        String text = paragraphs.getOrDefault(paragraph, "");
        int found = text.indexOf(sentence, behindSignature(text));
        c.due("the document has the sentence", found >= 0, true);
        BitSet marks = quoted.computeIfAbsent(paragraph, key -> new BitSet());
        if (found >= 0) {
            marks.set(found, found + sentence.length());
        }
    }

    /** A promise begins with its method's signature, which FaceTest is of. */
    private static int behindSignature(String text) {
        return text.startsWith("`") ? text.indexOf('`', 1) + 1 : 0;
    }

    /** Ends the tests; all of these paragraphs must have been quoted, sentence by sentence. */
    void end(String... whole) {
        for (String paragraph : whole) {
            c.about(paragraph);
            c.due("what no test is of", without(paragraph), "");
        }
        System.out.println(tests + " sentences");
        c.end();
    }

    private String without(String paragraph) {
        String text = paragraphs.getOrDefault(paragraph, "");
        BitSet marks = quoted.getOrDefault(paragraph, new BitSet());
        StringBuilder rest = new StringBuilder();
        for (int i = behindSignature(text); i < text.length(); i++) {
            rest.append(marks.get(i) ? ' ' : text.charAt(i));
        }
        // Joining words and marks between two sentences say nothing by themselves.
        return rest.toString()
                .replaceAll("\\b(and it answers|and|or|but)\\b", " ")
                .replaceAll("[\\s.,;:()]+", " ")
                .trim();
    }
}
