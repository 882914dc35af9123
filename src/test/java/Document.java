import java.io.IOException;
import java.nio.file.Files;
import java.nio.file.Path;
import java.util.LinkedHashSet;
import java.util.Set;

/**
 * The sentences of "Terms" and of the promises in ../shared/DOC.md, each one behind the place where it stands, as in
 * "Promise 2: Adds a block.". The line of a parameter and the line of an exception are sentences too.
 */
final class Document {
    private static final Path FILE = Path.of("../shared/DOC.md");

    private Document() {
    }

    static Set<String> sentences() throws IOException {
        Set<String> sentences = new LinkedHashSet<>();
        String place = "";
        for (String line : Files.readAllLines(FILE)) {
            if (line.startsWith("## ")) {
                boolean isRead = line.equals("## Terms") || line.startsWith("## Promise ");
                place = isRead ? line.substring(3).split(":")[0] : "";
            } else if (!place.isEmpty()) {
                addSentences(sentences, place, line);
            }
        }
        return sentences;
    }

    private static void addSentences(Set<String> sentences, String place, String line) {
        String text = line.replaceFirst("^- ", "").replaceFirst("^`[^`]*\\([^`]*`: ", "");
        for (String sentence : text.split("(?<=[.])\\s+(?=[A-Z])")) {
            boolean isHeadword = sentence.split(" ").length < 3 && sentence.endsWith(".");
            if (!sentence.isBlank() && !isHeadword) {
                sentences.add(place + ": " + sentence.strip());
            }
        }
    }
}
