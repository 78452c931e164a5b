import java.util.ArrayList;
import java.util.List;
import java.util.Set;

/** Every sentence of the document that names an answer or a change is bound to a test. */
public final class DocumentTest {

    /** What is left where the tests' words are taken away: names, headings, and what the document leaves free. */
    private static final Set<String> NAMES_NO_ANSWER_AND_NO_CHANGE = Set.of(
        "Public constants",
        "T, the text", "P, the pattern", "symbol", "suffix i", "ORDER", "lcp(X,Y)", "occurrence of P",
        "B, the BUILT flag", "SA",
        "java",
        "new InducedSorter(capacity, sigma)",
        "lcpAt(r)", "count()", "rangeStart()", "locate(k)", "distinctSubstrings()", "longestRepeat()",
        "The time and memory each call takes are free, as is the internal representation of T, P, SA and the LCP"
            + " values",
        "Whether build() repeats any work when B is already true is free",
        "Anything not described above is free");

    public static void main(String[] args) {
        if (!Document.isHere()) {
            System.out.println("DOC.md is not here: whether all its sentences are tested is not asked");
            return;
        }
        listTests();
        for (String heading : Document.sections().keySet()) {
            for (String rest : restOf(heading)) {
                boolean known = NAMES_NO_ANSWER_AND_NO_CHANGE.contains(rest);
                Check.same(heading + ": \"" + rest + "\" is tested", known, true);
            }
        }
        Check.end();
    }

    private static void listTests() {
        Sentence.onlyList();
        String[] none = {};
        BoundaryDefinitionsTest.main(none);
        BoundaryTextTest.main(none);
        BoundaryIndexTest.main(none);
        BoundaryPatternTest.main(none);
        BoundarySubstringsTest.main(none);
        PlainSentencesTest.main(none);
        FaceTest.main(none);
    }

    /** The pieces of a section that no test is bound to, without the marks around them. */
    private static List<String> restOf(String heading) {
        String section = Document.sections().get(heading);
        boolean[] tested = new boolean[section.length()];
        for (String words : Sentence.wordsTested(heading)) {
            int from = section.indexOf(words);
            for (int i = 0; from >= 0 && i < words.length(); i++) {
                tested[from + i] = true;
            }
        }
        StringBuilder rest = new StringBuilder();
        for (int i = 0; i < section.length(); i++) {
            rest.append(tested[i] ? '\n' : section.charAt(i));
        }
        List<String> pieces = new ArrayList<>();
        for (String line : rest.toString().split("\n")) {
            String piece = withoutMarks(line);
            if (!piece.isEmpty()) {
                pieces.add(piece);
            }
        }
        return pieces;
    }

    private static String withoutMarks(String line) {
        return line.replaceAll("[*`]", "")
            .replaceAll("^[\\s\\d.,:;})-]+", "")
            .replaceAll("^and\\b", "")
            .replaceAll("[\\s.,:;-]+$", "")
            .trim();
    }
}
