import java.lang.reflect.Method;
import java.util.ArrayList;
import java.util.List;
import java.util.TreeSet;
import java.util.Set;

/** Whether each sentence of the document that names a case has a test that quotes it. */
public final class SentenceCoverTest {
    private static final Check CHECK = new Check("SentenceCoverTest");
    private static final List<Class<?>> TESTS = List.of(DescriptionSentencesTest.class,
        GraphSentencesTest.class, NetSentencesTest.class, PlacementSentencesTest.class,
        StateSentencesTest.class);
    /** What names no case: headings, what the paper is about, and what later calls answer. */
    private static final Set<String> NO_CASE = Set.of(
        "A workbench for two-dimensional periodic nets that are given as quotient graphs with "
            + "integer shifts: coordination sequences, the period lattice, barycentric placement "
            + "with exact fractions, collisions, smallest rings through angles, and changes of "
            + "representatives and of the lattice basis.",
        "what later calls answer is free.",
        "An edge has a start vertex a, an end vertex b and a shift (x, y);",
        "Quotient graph.", "Net.", "Ends.", "Distance.", "Period lattice.",
        "Barycentric placement.", "Rings.", "Undo.", "Errors.",
        "Examples: Each of them begins with a new object;",
        "the results are given behind the calls.", "The constants:",
        "The constructor and the methods follow, a promise each: the signature, then what it "
            + "does.",
        "Finds an edge.", "Returns the number of vertices.", "Returns the number of edges.",
        "Returns the degree of a vertex.", "Returns the vertex to which an end leads.",
        "Returns a coordination number.", "Returns the smallest ring through two ends.",
        "Returns the numerator of a coordinate of a position.",
        "Returns the denominator of a coordinate of a position.",
        "Tells whether two vertices collide.");

    private SentenceCoverTest() {
    }

    public static void main(String[] args) {
        Doc doc = Doc.read();
        Set<String> unused = new TreeSet<>(NO_CASE);
        for (String heading : doc.headings()) {
            if (heading.startsWith("Promise") || heading.equals("Description")
                    || heading.equals("What it is")) {
                lookAt(doc, heading, unused);
            }
        }
        CHECK.holds("the sentences without a case are in the document: " + unused,
            unused.isEmpty());
        for (int n = 1; n <= 25; n++) {
            CHECK.holds("Promise " + n + " has tests", quotes("Promise " + n).size() > 0);
        }
        CHECK.end();
    }

    private static List<String> quotes(String heading) {
        List<String> quotes = new ArrayList<>();
        for (Class<?> tests : TESTS) {
            for (Method test : Sentences.testsOf(tests)) {
                Sentence sentence = test.getAnnotation(Sentence.class);
                if (sentence.in().equals(heading)) {
                    quotes.add(sentence.says());
                }
            }
        }
        return quotes;
    }

    private static void lookAt(Doc doc, String heading, Set<String> unused) {
        String text = doc.text(heading);
        boolean[] quoted = new boolean[text.length()];
        for (String quote : quotes(heading)) {
            int at = text.indexOf(quote);
            for (int k = 0; at >= 0 && k < quote.length(); k++) {
                quoted[at + k] = true;
            }
        }
        int start = 0;
        for (String sentence : doc.sentences(heading)) {
            int letters = 0;
            for (int k = 0; k < sentence.length(); k++) {
                letters += quoted[start + k] ? 1 : 0;
            }
            unused.remove(sentence);
            CHECK.holds("a test for " + heading + ": \"" + sentence + "\"",
                2 * letters >= sentence.length() || namesNoCase(sentence));
            start += sentence.length() + 1;
        }
    }

    /** Signatures (FaceTest has them) and headings name none either. */
    private static boolean namesNoCase(String sentence) {
        return NO_CASE.contains(sentence) || sentence.startsWith("`")
            || sentence.startsWith("----");
    }
}
