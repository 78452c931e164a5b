import java.io.IOException;
import java.lang.reflect.Field;
import java.lang.reflect.Method;
import java.lang.reflect.Modifier;
import java.util.ArrayList;
import java.util.Arrays;
import java.util.List;
import java.util.Set;
import java.util.TreeSet;

/**
 * The rules of LANGUAGE.md, as far as they can be read off the class and its source. Where a rule leaves
 * several ways this asks for the one that the program takes. Rule 7 is left to the tests that call with any
 * arguments in any state, and to {@link Deadline}.
 */
public final class LanguageTest {
    private static final Class<?> PROGRAM = InducedSorter.class;
    private static final Set<String> NUMBERS = Set.of("int", "long", "short", "byte", "char", "boolean");
    private static Source source;

    public static void main(String[] args) throws IOException {
        source = new Source();
        Check.under("rule 1", LanguageTest::rule1OneClass);
        Check.under("rule 2", LanguageTest::rule2Types);
        Check.under("rule 3", LanguageTest::rule3NoLibrary);
        Check.under("rule 4", LanguageTest::rule4Arrays);
        Check.under("rule 5", LanguageTest::rule5StaticFields);
        Check.under("rule 6", LanguageTest::rule6Words);
        Check.under("rule 8, recursion", LanguageTest::rule8NoRecursion);
        Check.under("rule 8, loops", LanguageTest::rule8LoopsCount);
        Check.under("rule 10", LanguageTest::rule10Sizes);
        Check.under("rule 10, calls", LanguageTest::rule10CallsStandAlone);
        Check.end();
    }

    private static void absent(String... words) {
        for (String word : words) {
            Check.same("'" + word + "' in the source", source.tokens.contains(word), false);
        }
    }

    /** What may be seen from outside is FaceTest's. */
    private static void rule1OneClass() {
        List<String> begin = List.of("public", "final", "class", "InducedSorter", "{");
        Check.same("begin of the source", source.tokens.subList(0, 5), begin);
        Check.same("classes in the source", source.tokens.stream().filter("class"::equals).count(), 1L);
        absent("package", "interface", "enum", "record", "@", "extends", "implements");
        Set<String> names = new TreeSet<>();
        for (Method m : PROGRAM.getDeclaredMethods()) {
            Check.same("method name " + m.getName() + " is used once", names.add(m.getName()), true);
        }
    }

    private static void rule2Types() {
        for (Field f : PROGRAM.getDeclaredFields()) {
            isPlain("field " + f.getName(), f.getType());
        }
        for (Method m : PROGRAM.getDeclaredMethods()) {
            for (Class<?> type : m.getParameterTypes()) {
                isPlain("parameter of " + m.getName(), type);
            }
            String answer = m.getReturnType().getSimpleName();
            boolean plain = answer.equals("void") || NUMBERS.contains(answer);
            Check.same("answer of " + m.getName() + ", " + answer + ", is a number", plain, true);
        }
        absent("float", "double", "var", "\"", "Object");
        oneDimension();
    }

    private static void isPlain(String what, Class<?> type) {
        String element = type.getSimpleName().replaceFirst("\\[\\]$", "");
        Check.same(what + " is a number or an array of them", NUMBERS.contains(element), true);
    }

    private static void oneDimension() {
        for (int i = 0; i + 1 < source.tokens.size(); i++) {
            boolean twice = source.tokens.get(i).equals("]") && source.tokens.get(i + 1).equals("[");
            Check.same("array of arrays in line " + source.lineOfToken.get(i), twice, false);
        }
    }

    private static void rule3NoLibrary() {
        absent("import", "super");
        for (int i = 1; i < source.tokens.size(); i++) {
            String token = source.tokens.get(i);
            String where = " in line " + source.lineOfToken.get(i);
            if (token.equals(".")) {
                Check.same("before the point" + where, source.tokens.get(i - 1), "this");
            }
            boolean otherClass = token.matches("[A-Z]\\w*[a-z]\\w*") && !token.equals("InducedSorter");
            Check.same("class " + token + where, otherClass, false);
        }
        for (Source.Method method : source.methods.values()) {
            for (int place : Source.calls(method.body())) {
                String called = method.body().get(place);
                Check.same(called + " is a method of the class", source.methods.containsKey(called), true);
            }
        }
    }

    private static void rule4Arrays() {
        absent("null");
        for (Source.Method method : source.methods.values()) {
            Check.same("something is made in " + method.name(), method.body().contains("new"), false);
        }
        String fields = String.join(" ", source.outsideMethods);
        String array = "private final \\w+ \\[ \\] \\w+ = new \\w+ \\[ (MAX_\\w+|[1-9]\\d*) \\] ;";
        int made = fields.split("\\bnew\\b", -1).length;
        int madeAsArrays = fields.split(array, -1).length;
        Check.same("arrays that fields are made with, of all that is made", madeAsArrays, made);
        for (Field f : PROGRAM.getDeclaredFields()) {
            if (f.getType().isArray()) {
                isOnlyIndexed(f.getName());
            }
        }
    }

    /** Neither handed on, nor compared, nor answered, nor given another name. */
    private static void isOnlyIndexed(String array) {
        for (Source.Method method : source.methods.values()) {
            List<String> body = method.body();
            for (int i = 0; i < body.size(); i++) {
                if (body.get(i).equals(array)) {
                    Check.same("after " + array + " in " + method.name(), body.get(i + 1), "[");
                }
            }
        }
    }

    private static void rule5StaticFields() {
        for (Field f : PROGRAM.getDeclaredFields()) {
            if (Modifier.isStatic(f.getModifiers())) {
                String type = f.getType().getSimpleName();
                Check.same(f.getName() + " is final", Modifier.isFinal(f.getModifiers()), true);
                Check.same(f.getName() + " is a number", type.equals("int") || type.equals("long"), true);
            }
        }
        Check.same("blocks that are no method", source.methods.containsKey("a block without a name"), false);
    }

    private static void rule6Words() {
        absent("throw", "throws", "try", "catch", "finally", "synchronized", "assert", "instanceof", "->", "::");
    }

    private static void rule8NoRecursion() {
        for (Source.Method method : source.methods.values()) {
            Set<String> reached = new TreeSet<>();
            List<String> open = new ArrayList<>(calledBy(method));
            while (!open.isEmpty()) {
                String name = open.remove(open.size() - 1);
                if (reached.add(name)) {
                    open.addAll(calledBy(source.methods.get(name)));
                }
            }
            Check.same(method.name() + " reaches itself", reached.contains(method.name()), false);
        }
    }

    private static Set<String> calledBy(Source.Method method) {
        Set<String> names = new TreeSet<>();
        for (int place : Source.calls(method.body())) {
            String called = method.body().get(place);
            if (source.methods.containsKey(called)) {
                names.add(called);
            }
        }
        return names;
    }

    /** Each loop runs a counter against a bound: the counter is the first name in the loop's condition. */
    private static void rule8LoopsCount() {
        absent("do");
        for (Source.Method method : source.methods.values()) {
            List<String> body = method.body();
            for (int i = 0; i < body.size(); i++) {
                if (body.get(i).equals("for") || body.get(i).equals("while")) {
                    int headEnd = Source.closing(body, i + 1);
                    List<String> head = body.subList(i + 2, headEnd);
                    List<String> inner = body.subList(headEnd + 1, Source.closing(body, headEnd + 1) + 1);
                    String where = " of a loop in " + method.name();
                    if (body.get(i).equals("for")) {
                        forCounts(where, head, inner);
                    } else {
                        whileCounts(where, head, inner);
                    }
                }
            }
        }
    }

    private static void forCounts(String where, List<String> head, List<String> inner) {
        int condition = head.indexOf(";") + 1;
        int step = head.lastIndexOf(";") + 1;
        String counter = head.get(condition);
        Check.same("condition" + where, head.get(condition + 1), "<");
        Check.same("step" + where, head.subList(step, head.size()), List.of(counter, "++"));
        Check.same("changes of the counter" + where, changes(inner, counter), 0);
    }

    private static void whileCounts(String where, List<String> head, List<String> inner) {
        String counter = head.get(0);
        Check.same("condition" + where, head.subList(1, 3), List.of(">", "0"));
        Check.same("other ways into the body" + where, head.contains("||"), false);
        Check.same("changes of the counter" + where, changes(inner, counter), 1);
        List<String> last = inner.subList(inner.size() - 4, inner.size());
        Check.same("end" + where, last, List.of(counter, "--", ";", "}"));
    }

    private static int changes(List<String> tokens, String name) {
        Set<String> changing = new TreeSet<>(Arrays.asList("=", "++", "--", "+=", "-=", "*=", "/=", "%="));
        int changes = 0;
        for (int i = 0; i + 1 < tokens.size(); i++) {
            boolean before = i > 0 && Set.of("++", "--").contains(tokens.get(i - 1));
            if (tokens.get(i).equals(name) && (before || changing.contains(tokens.get(i + 1)))) {
                changes++;
            }
        }
        return changes;
    }

    private static void rule10Sizes() {
        int fields = 0;
        for (Field f : PROGRAM.getDeclaredFields()) {
            fields += Modifier.isStatic(f.getModifiers()) ? 0 : 1;
        }
        Check.within("number of fields", fields, 0, 40);
        for (Method m : PROGRAM.getDeclaredMethods()) {
            Check.within("parameters of " + m.getName(), m.getParameterCount(), 0, 7);
        }
        for (Source.Method method : source.methods.values()) {
            Check.within("lines of " + method.name(), method.lines(), 1, 60);
            Check.within("depth of the calls from " + method.name(), depth(method), 1, 6);
        }
    }

    /** How many methods are under way at once, this one with them; more than six are not counted. */
    private static int depth(Source.Method method) {
        Set<String> reached = Set.of(method.name());
        int depth = 0;
        while (!reached.isEmpty() && depth < 7) {
            Set<String> next = new TreeSet<>();
            for (String name : reached) {
                next.addAll(calledBy(source.methods.get(name)));
            }
            reached = next;
            depth++;
        }
        return depth;
    }

    private static void rule10CallsStandAlone() {
        for (Source.Method method : source.methods.values()) {
            List<String> body = method.body();
            for (int place : Source.calls(body)) {
                List<String> arguments = body.subList(place + 2, Source.closing(body, place + 1) + 1);
                Check.same("calls among the arguments of " + body.get(place) + " in " + method.name(),
                    Source.calls(arguments).size(), 0);
            }
        }
    }
}
