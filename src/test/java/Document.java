import java.io.IOException;
import java.nio.file.Files;
import java.nio.file.Path;
import java.util.LinkedHashSet;
import java.util.Set;

/**
 * The document that the tests of its sentences quote. Every quote must stand in the document, every sentence
 * of it that can be tested must be quoted, and every quote must be followed by a comparison.
 */
final class Document {
    private static final Path FILE = Path.of("..", "shared", "DOC.md");
    private static final Set<String> QUOTES = new LinkedHashSet<>();

    private static String section = "";
    private static String latest = "";
    private static int madeBefore;

    private Document() {
    }

    /** Begins the tests of a "Term 3" or of a "Promise 12". */
    static void section(String name) {
        section = name;
    }

    /** Begins the test of a sentence, or of sentences that say the same. */
    static void sentence(String... words) {
        endSentence();
        for (String sentence : words) {
            latest = section + ": " + sentence;
            QUOTES.add(latest);
        }
        Check.about(latest);
        madeBefore = Check.made();
    }

    private static void endSentence() {
        if (!latest.isEmpty()) {
            Check.due("there is a comparison", true, Check.made() > madeBefore);
        }
    }

    /** Compares the quotes with the document, behind the last sentence. */
    static void compareQuotes() throws IOException {
        endSentence();
        if (!Files.exists(FILE)) {
            System.out.println("there is no " + FILE + ": the quotes are not compared with it");
            return;
        }
        Check.about("the quotes");
        Set<String> sentences = new Reader().read();
        for (String quote : QUOTES) {
            Check.due("stands in the document: " + quote, true, sentences.contains(quote));
        }
        for (String sentence : sentences) {
            Check.due("has a test: " + sentence, true, QUOTES.contains(sentence));
        }
    }

    /** Takes the Terms and the Promises apart, sentence by sentence. */
    private static final class Reader {
        private final Set<String> sentences = new LinkedHashSet<>();
        private final StringBuilder piece = new StringBuilder();
        private String place = "";

        Set<String> read() throws IOException {
            boolean inside = false;
            for (String line : Files.readAllLines(FILE)) {
                if (line.equals("## Terms")) {
                    inside = true;
                } else if (line.equals("## Not promised")) {
                    inside = false;
                } else if (inside) {
                    readLine(line);
                }
            }
            endPiece();
            return sentences;
        }

        private void readLine(String line) {
            boolean isHead = line.startsWith("## ") || line.matches("\\d\\. .*");
            boolean isFence = line.startsWith("```");
            if (isHead || isFence || line.isBlank() || line.startsWith("- ") || line.startsWith("  ")
                    || line.startsWith("Throws ")) {
                endPiece();
            }
            if (isHead) {
                place = line.startsWith("## ") ? line.substring(3, line.indexOf(':')) : "Term " + line.charAt(0);
            } else if (!isFence) {
                piece.append(line).append(' ');
            }
        }

        private void endPiece() {
            String text = piece.toString().trim().replaceAll("\\s+", " ");
            piece.setLength(0);
            for (String sentence : text.split("(?<=[.])\\s+(?=[A-Z`])")) {
                String words = sentence.replaceFirst("^- ", "").replaceFirst("^`[^`]*`: ", "");
                if (!saysNothingToTest(words)) {
                    sentences.add(place + ": " + words);
                }
            }
        }

        /** What a number of a thing may be stands at the exceptions; the headings of the interface are no promise. */
        private static boolean saysNothingToTest(String words) {
            return words.isEmpty()
                    || words.startsWith("number of a ") && !words.contains(",")
                    || words.startsWith("number of the ")
                    || words.startsWith("Ahead of the calls ")
                    || words.equals("The kinds are as follows.");
        }
    }
}
