import java.io.IOException;
import java.nio.file.Files;
import java.nio.file.Path;
import java.util.LinkedHashMap;
import java.util.List;
import java.util.Map;

/** The sections of ../shared/DOC.md, by their headings and in their order. */
final class Document {
    private static final Path PLACE = Path.of("../shared/DOC.md");
    private static Map<String, String> sections = null;

    private Document() {
    }

    /** The tests of the class itself can also run where the document is not at hand. */
    static boolean isHere() {
        return Files.isReadable(PLACE);
    }

    static Map<String, String> sections() {
        if (sections == null) {
            sections = read();
        }
        return sections;
    }

    /** The promises are known by their numbers: 'Promise 7' stands for 'Promise 7: isBuilt'. */
    static String section(String name) {
        for (Map.Entry<String, String> section : sections().entrySet()) {
            if (isNamed(section.getKey(), name)) {
                return section.getValue();
            }
        }
        return "";
    }

    static boolean isNamed(String heading, String name) {
        return heading.equals(name) || heading.startsWith(name + ":");
    }

    private static Map<String, String> read() {
        Map<String, String> all = new LinkedHashMap<>();
        String heading = "";
        for (String line : lines()) {
            if (line.startsWith("#")) {
                heading = line.replaceAll("^#+ ", "");
            } else {
                all.merge(heading, line + "\n", String::concat);
            }
        }
        return all;
    }

    private static List<String> lines() {
        try {
            return Files.readAllLines(PLACE);
        } catch (IOException e) {
            throw new IllegalStateException(e);
        }
    }
}
