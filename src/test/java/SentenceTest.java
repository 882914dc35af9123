import java.io.IOException;
import java.util.Set;

/** Each sentence of the document that names a boundary case has a test of its own, which bears its name. */
public final class SentenceTest {
    private static final Checks CHECKS = new Checks();

    /** What heads a list of calls, or the whole. */
    private static final Set<String> HEADS = Set.of("Trains run through blocks, points are set and locked by routes, and "
            + "a signal shows clear only if its route is set and free.", "The class finds routes over the points, detects "
            + "which routes conflict in two ways, schedules waiting trains, finds circles of trains that wait for each "
            + "other, balances train counts, and executes programs.", "This class is not thread-safe.");
    private static final String HEAD_OF_CALLS = "Ahead of the calls ";

    /** What names a parameter and none of its bounds. */
    private static final Set<String> PARAMETERS = Set.of("`stem`: the stem", "`left`: the left branch",
            "`right`: the right branch", "`from`: the block from which it leads", "`to`: the block to which it leads",
            "`from`: the first block", "`to`: the last block", "`block`: the block",
            "`block`: the block that it occupies", "`destination`: the destination", "`point`: the point",
            "`train`: the train", "`train`: the number", "`train`: the one train", "`other`: the other train");

    /** What says no more than the sentence before it in the same promise. */
    private static final Set<String> REPETITIONS = Set.of("Returns the length.", "Returns the state of a block.",
            "Returns the train.", "Returns the block.", "Returns the number of trains.", "Returns the number of minutes.",
            "Returns whether a point lies to the left.", "Returns true if it has one.", "Returns the reason.",
            "Returns the mean delay.", "Returns the quotient.", "Returns the character.", "Returns the error position.",
            "Returns the number of the command.");

    public static void main(String[] args) throws IOException {
        Suite suite = new Suite();
        LineSentences.addTo(suite);
        TrainSentences.addTo(suite);
        RouteSentences.addTo(suite);
        PresenceSentences.addTo(suite);
        WaitingSentences.addTo(suite);
        SumSentences.addTo(suite);
        ProgramSentences.addTo(suite);
        UndoSentences.addTo(suite);
        TermSentences.addTo(suite);
        RunningSentences.addTo(suite);
        RefusalSentences.addTo(suite);
        suite.run(CHECKS);
        eachSentenceIsTested(suite.names());
        System.out.println(suite.names().size() + " sentences have tests of their own");
        CHECKS.end();
    }

    private static void eachSentenceIsTested(Set<String> tested) throws IOException {
        CHECKS.part("the document");
        Set<String> sentences = Document.sentences();
        for (String name : tested) {
            CHECKS.due(true, sentences.contains(name), name + " is a sentence of the document:");
        }
        for (String name : sentences) {
            String sentence = name.substring(name.indexOf(": ") + 2);
            boolean namesNoBoundary = HEADS.contains(sentence) || sentence.startsWith(HEAD_OF_CALLS)
                    || PARAMETERS.contains(sentence) || REPETITIONS.contains(sentence);
            CHECKS.due(true, tested.contains(name) || namesNoBoundary, name + " has a test:");
        }
    }
}
