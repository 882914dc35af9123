import java.io.IOException;
import java.nio.file.Files;
import java.nio.file.Path;
import java.util.ArrayList;
import java.util.LinkedHashSet;
import java.util.List;
import java.util.Set;

/** What the tests read in ../shared/DOC.md. */
final class Document {
    private static final Path FILE = Path.of("../shared/DOC.md");
    private static final String HEAD_OF_CALLS = "Ahead of the calls ";
    private static final String HEAD_OF_HEADING = " the interface says: ---- ";

    private Document() {
    }

    /**
     * The sentences of "Terms" and of the promises, each one behind the place where it stands, as in
     * "Promise 2: Adds a block.". The line of a parameter and the line of an exception are sentences too.
     */
    static Set<String> sentences() throws IOException {
        Set<String> sentences = new LinkedHashSet<>();
        String place = "";
        for (String line : Files.readAllLines(FILE)) {
            if (line.startsWith("## ")) {
                boolean isRead = line.equals("## Terms") || line.startsWith("## Promise ");
                place = isRead ? line.substring(3).split(":")[0] : "";
            } else if (!place.isEmpty()) {
                addSentences(sentences, place, line);
            }
        }
        return sentences;
    }

    private static void addSentences(Set<String> sentences, String place, String line) {
        String text = line.replaceFirst("^- ", "").replaceFirst("^`[^`]*\\([^`]*`: ", "");
        for (String sentence : text.split("(?<=[.])\\s+(?=[A-Z])")) {
            boolean isHeadword = sentence.split(" ").length < 3 && sentence.endsWith(".");
            if (!sentence.isBlank() && !isHeadword) {
                sentences.add(place + ": " + sentence.strip());
            }
        }
    }

    /** The declarations of "The public face", without the one of the class. */
    static List<String> face() throws IOException {
        List<String> declarations = new ArrayList<>();
        for (String line : Files.readAllLines(FILE)) {
            if (line.startsWith("    public ") && line.endsWith(";")) {
                declarations.add(line.substring(0, line.length() - 1).strip());
            }
        }
        return declarations;
    }

    /** Each call with the heading that the interface says ahead of it, as in "save under undo and snapshots". */
    static List<String> headings() throws IOException {
        List<String> headings = new ArrayList<>();
        for (String line : Files.readAllLines(FILE)) {
            if (line.startsWith(HEAD_OF_CALLS)) {
                String[] halves = line.substring(HEAD_OF_CALLS.length()).split(HEAD_OF_HEADING);
                String calls = halves[0].replace("`", "");
                String heading = halves[1].substring(0, halves[1].length() - 1);
                for (String call : calls.split(", ")) {
                    headings.add(call + " under " + heading);
                }
            }
        }
        return headings;
    }
}
