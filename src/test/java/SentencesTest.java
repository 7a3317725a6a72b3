import java.io.IOException;
import java.nio.charset.StandardCharsets;
import java.nio.file.Files;
import java.nio.file.Path;
import java.util.List;

/**
 * A test of its own for each sentence of the document that names a boundary case. Each test says the words
 * that it holds; they must stand in their section, and no words of 'Terms' or of a promise may be left over.
 */
public final class SentencesTest extends Sentences {
    private static final Path DOCUMENT = Path.of("../shared/DOC.md");
    private static final int PROMISES = 48;

    public static void main(String[] args) throws IOException {
        TermsSentences.holdAll();
        TextSentences.holdAll();
        KeeperSentences.holdAll();
        LaterSentences.holdAll();
        QuarterSentences.holdAll();
        StuckSentences.holdAll();
        GameSentences.holdAll();
        KeptSentences.holdAll();
        everySentenceIsHeld(Files.readString(DOCUMENT, StandardCharsets.UTF_8));
        System.out.println("sentences: " + tests + " tests, " + answers + " answers, " + wrong + " wrong");
        if (wrong != 0) {
            System.exit(1);
        }
    }

    private static void everySentenceIsHeld(String document) {
        wordsStand("What it is", document);
        leftOver("Terms", wordsStand("Terms", document));
        for (int n = 1; n <= PROMISES; n++) {
            String section = "Promise " + n + ":";
            leftOver(section, wordsStand(section, document));
        }
    }

    /** The section's words, with blanks for those that are held. */
    private static String wordsStand(String section, String document) {
        String words = wordsOf(section, document);
        boolean[] held = new boolean[words.length()];
        for (String sentence : HELD.getOrDefault(section, List.of())) {
            int at = words.indexOf(sentence);
            if (at < 0) {
                wrong++;
                System.out.println(section + " does not say: " + sentence);
            }
            for (; at >= 0; at = words.indexOf(sentence, at + 1)) {
                java.util.Arrays.fill(held, at, at + sentence.length(), true);
            }
        }
        StringBuilder left = new StringBuilder();
        for (int i = 0; i < held.length; i++) {
            left.append(held[i] ? ' ' : words.charAt(i));
        }
        return left.toString();
    }

    private static String wordsOf(String section, String document) {
        int start = document.indexOf("## " + section);
        if (start < 0) {
            wrong++;
            System.out.println("the document has no " + section);
            return "";
        }
        int end = document.indexOf("\n## ", start);
        StringBuilder words = new StringBuilder();
        for (String line : document.substring(start + 3, end < 0 ? document.length() : end).split("\n")) {
            boolean says = !line.startsWith("```") && !line.startsWith("Ahead of the calls");
            words.append(says ? line + " " : "");
        }
        return words.toString().replaceAll("\\s+", " ");
    }

    private static void leftOver(String section, String left) {
        String rest = left.replaceFirst("^.*?`[^`]*`", "").replaceAll("Terms|\\b[12]\\. ", "");
        if (rest.matches(".*[A-Za-z0-9].*")) {
            wrong++;
            System.out.println(section + " has words that no test holds: " + rest.replaceAll("\\s+", " ").trim());
        }
    }
}
