import java.io.IOException;
import java.lang.reflect.InvocationTargetException;
import java.lang.reflect.Method;
import java.lang.reflect.Modifier;
import java.nio.file.Files;
import java.nio.file.Path;
import java.util.ArrayList;
import java.util.HashMap;
import java.util.List;
import java.util.Map;
import java.util.Set;
import java.util.TreeSet;
import java.util.regex.Matcher;
import java.util.regex.Pattern;

/**
 * The calls that README.md shows answer what README.md says. Its blocks of Java are run line by line: where
 * the calls of a line answer something, the comment behind them begins with these answers, one for each call
 * and with commas between them, and goes on behind a colon, if at all.
 */
public final class ReadmeTest {
    private static final Path PLACE = Path.of("README.md");
    private static final Pattern MAKING = Pattern.compile(
        "InducedSorter (\\w+) = new InducedSorter\\((-?\\d+), (-?\\d+)\\)");
    private static final Pattern CALL = Pattern.compile("(\\w+)\\.(\\w+)\\((-?\\d*)\\)");
    private static final Pattern CONSTANT = Pattern.compile("`InducedSorter\\.(\\w+)` \\((-?\\d+)\\)");

    private static final Map<String, InducedSorter> OBJECTS = new HashMap<>();
    private static final Set<String> SHOWN = new TreeSet<>();

    public static void main(String[] args) throws IOException, ReflectiveOperationException {
        boolean inBlock = false;
        for (String line : Files.readAllLines(PLACE)) {
            if (line.startsWith("```")) {
                inBlock = line.equals("```java");
            } else if (inBlock) {
                runLine(line);
            }
        }
        Check.same("methods that README.md shows", SHOWN, publicMethods());
        constants(Files.readString(PLACE));
        Check.end();
    }

    private static void runLine(String line) throws ReflectiveOperationException {
        String[] codeAndComment = line.split("//", 2);
        List<String> answers = new ArrayList<>();
        for (String statement : codeAndComment[0].split(";")) {
            if (!statement.isBlank()) {
                run(statement.trim(), line, answers);
            }
        }
        if (!answers.isEmpty()) {
            String comment = codeAndComment.length > 1 ? codeAndComment[1] : "";
            String said = comment.split(":", 2)[0].trim();
            Check.same("README.md, " + line.trim() + ":", String.join(", ", answers), said);
        }
    }

    private static void run(String statement, String line, List<String> answers) throws ReflectiveOperationException {
        Matcher making = MAKING.matcher(statement);
        Matcher call = CALL.matcher(statement);
        if (making.matches()) {
            int capacity = Integer.parseInt(making.group(2));
            OBJECTS.put(making.group(1), new InducedSorter(capacity, Integer.parseInt(making.group(3))));
        } else if (call.matches() && OBJECTS.containsKey(call.group(1))) {
            Object answer = answerOf(OBJECTS.get(call.group(1)), call.group(2), call.group(3));
            if (answer != null) {
                answers.add(answer.toString());
            }
        } else {
            Check.same("README.md, " + line.trim() + ": '" + statement + "' is a call on an object", false, true);
        }
    }

    /** Null for a method that answers nothing. */
    private static Object answerOf(InducedSorter x, String name, String argument) throws ReflectiveOperationException {
        SHOWN.add(name);
        try {
            if (argument.isEmpty()) {
                return InducedSorter.class.getMethod(name).invoke(x);
            }
            return InducedSorter.class.getMethod(name, int.class).invoke(x, Integer.parseInt(argument));
        } catch (NoSuchMethodException e) {
            return "there is no " + name + "(" + argument + ")";
        } catch (InvocationTargetException e) {
            return name + "(" + argument + ") threw " + e.getCause();
        }
    }

    private static Set<String> publicMethods() {
        Set<String> names = new TreeSet<>();
        for (Method m : InducedSorter.class.getDeclaredMethods()) {
            if (Modifier.isPublic(m.getModifiers())) {
                names.add(m.getName());
            }
        }
        return names;
    }

    private static void constants(String readme) throws ReflectiveOperationException {
        Set<String> named = new TreeSet<>();
        Matcher constant = CONSTANT.matcher(readme);
        while (constant.find()) {
            int value = InducedSorter.class.getField(constant.group(1)).getInt(null);
            Check.same("README.md, " + constant.group(1) + ":", value, Integer.parseInt(constant.group(2)));
            named.add(constant.group(1));
        }
        Check.same("constants that README.md names", named, Set.of("NONE", "MAX_CAPACITY", "MAX_SIGMA"));
    }
}
