import java.util.ArrayList;
import java.util.List;

/** Binds a test to the sentence of the document that it tests: a failure shows the section and the words. */
final class Sentence {
    private static final List<String[]> TESTED = new ArrayList<>();
    private static boolean onlyListed = false;

    private Sentence() {
    }

    static void holds(String section, String words, Runnable test) {
        TESTED.add(new String[] {section, words});
        if (!onlyListed) {
            Check.under(section + ", \"" + words + "\"", test);
        }
    }

    /** From now on tests are not run, but only written down: for asking which sentences have one. */
    static void onlyList() {
        onlyListed = true;
    }

    /** The words that tests are bound to, of the section with this heading. */
    static List<String> wordsTested(String heading) {
        List<String> words = new ArrayList<>();
        for (String[] tested : TESTED) {
            if (Document.isNamed(heading, tested[0])) {
                words.add(tested[1]);
            }
        }
        return words;
    }

    static void end() {
        if (onlyListed) {
            return;
        }
        wordsStandInTheDocument();
        Check.end();
        System.out.println(TESTED.size() + " sentences hold");
    }

    /** Words that the document doesn't have (any more) would lead the reader of a failure nowhere. */
    private static void wordsStandInTheDocument() {
        if (!Document.isHere()) {
            System.out.println("DOC.md is not here: the words of the sentences are not looked up");
            return;
        }
        for (String[] tested : TESTED) {
            boolean found = Document.section(tested[0]).contains(tested[1]);
            Check.same("\"" + tested[1] + "\" stands in the section " + tested[0], found, true);
        }
    }
}
