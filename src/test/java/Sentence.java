import java.io.IOException;
import java.nio.file.Files;
import java.nio.file.Path;
import java.util.ArrayList;
import java.util.List;

/** Binds a test to the sentence of the document that it tests: a failure shows the section and the words. */
final class Sentence {
    private static final Path DOCUMENT = Path.of("../shared/DOC.md");
    private static final List<String[]> TESTED = new ArrayList<>();

    private Sentence() {
    }

    static void holds(String section, String words, Runnable test) {
        TESTED.add(new String[] {section, words});
        Check.under(section + ", \"" + words + "\"", test);
    }

    static void end() {
        wordsStandInTheDocument();
        Check.end();
        System.out.println(TESTED.size() + " sentences hold");
    }

    /** Words that the document doesn't have (any more) would lead the reader of a failure nowhere. */
    private static void wordsStandInTheDocument() {
        if (!Files.isReadable(DOCUMENT)) {
            System.out.println(DOCUMENT + " is not here: the words of the sentences are not looked up");
            return;
        }
        for (String[] tested : TESTED) {
            boolean found = sectionText(tested[0]).contains(tested[1]);
            Check.same("\"" + tested[1] + "\" stands in the section " + tested[0], found, true);
        }
    }

    private static String sectionText(String section) {
        StringBuilder text = new StringBuilder();
        boolean inside = false;
        for (String line : documentLines()) {
            if (line.startsWith("#")) {
                String heading = line.replaceAll("^#+ ", "");
                inside = heading.equals(section) || heading.startsWith(section + ":");
            } else if (inside) {
                text.append(line).append('\n');
            }
        }
        return text.toString();
    }

    private static List<String> documentLines() {
        try {
            return Files.readAllLines(DOCUMENT);
        } catch (IOException e) {
            throw new IllegalStateException(e);
        }
    }
}
