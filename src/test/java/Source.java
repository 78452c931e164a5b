import java.io.IOException;
import java.nio.file.Files;
import java.nio.file.Path;
import java.util.ArrayList;
import java.util.LinkedHashMap;
import java.util.List;
import java.util.Map;
import java.util.Set;
import java.util.regex.Matcher;
import java.util.regex.Pattern;

/** The program's source as a list of words and marks, without its comments, and the methods in it. */
final class Source {
    private static final Path PLACE = Path.of("src/main/java/InducedSorter.java");
    private static final Pattern TOKEN = Pattern.compile("\\w+|\\+\\+|--|[-+*/%&|^<>=!]=|&&|\\|\\||<<|>>>?|->|::|\\S");
    private static final Set<String> BEFORE_A_PARENTHESIS = Set.of("if", "for", "while", "switch", "return");

    /** A method or the constructor: its head up to the brace, its body with both braces, and the lines it takes. */
    record Method(String name, List<String> head, List<String> body, int lines) {
    }

    final List<String> tokens = new ArrayList<>();
    final List<Integer> lineOfToken = new ArrayList<>();
    final Map<String, Method> methods = new LinkedHashMap<>();
    /** All that stands in the class but not in a method. */
    final List<String> outsideMethods = new ArrayList<>();

    Source() throws IOException {
        String text = Files.readString(PLACE);
        String code = withoutComments(text);
        int lineNumber = 1;
        for (String line : code.split("\n")) {
            Matcher token = TOKEN.matcher(line);
            while (token.find()) {
                tokens.add(token.group());
                lineOfToken.add(lineNumber);
            }
            lineNumber++;
        }
        findMethods();
    }

    /** Keeps the lines, so that they can be counted. */
    private static String withoutComments(String text) {
        StringBuilder code = new StringBuilder();
        Matcher comment = Pattern.compile("(?s)/\\*.*?\\*/|//[^\n]*").matcher(text);
        while (comment.find()) {
            comment.appendReplacement(code, comment.group().replaceAll("[^\n]", ""));
        }
        comment.appendTail(code);
        return code.toString();
    }

    private void findMethods() {
        int memberFrom = tokens.indexOf("{") + 1;
        outsideMethods.addAll(tokens.subList(0, memberFrom));
        for (int i = memberFrom; i < tokens.size() - 1; i++) {
            if (tokens.get(i).equals(";")) {
                outsideMethods.addAll(tokens.subList(memberFrom, i + 1));
                memberFrom = i + 1;
            } else if (tokens.get(i).equals("{")) {
                int to = closing(tokens, i);
                addMethod(memberFrom, i, to);
                i = to;
                memberFrom = to + 1;
            }
        }
        outsideMethods.addAll(tokens.subList(memberFrom, tokens.size()));
    }

    private void addMethod(int from, int brace, int to) {
        List<String> head = tokens.subList(from, brace);
        int lines = lineOfToken.get(to) - lineOfToken.get(from) + 1;
        int parenthesis = head.indexOf("(");
        String name = parenthesis > 0 ? head.get(parenthesis - 1) : "a block without a name";
        methods.put(name, new Method(name, head, tokens.subList(brace, to + 1), lines));
    }

    /** The place of the bracket that closes the one at this place. */
    static int closing(List<String> tokens, int place) {
        int depth = 0;
        for (int i = place; i < tokens.size(); i++) {
            String token = tokens.get(i);
            if (token.equals("(") || token.equals("{") || token.equals("[")) {
                depth++;
            } else if (token.equals(")") || token.equals("}") || token.equals("]")) {
                depth--;
            }
            if (depth == 0) {
                return i;
            }
        }
        return tokens.size() - 1;
    }

    /** The places of the names that are called. */
    static List<Integer> calls(List<String> tokens) {
        List<Integer> places = new ArrayList<>();
        for (int i = 0; i + 1 < tokens.size(); i++) {
            String token = tokens.get(i);
            boolean isName = Character.isJavaIdentifierStart(token.charAt(0));
            if (isName && tokens.get(i + 1).equals("(") && !BEFORE_A_PARENTHESIS.contains(token)) {
                places.add(i);
            }
        }
        return places;
    }
}
