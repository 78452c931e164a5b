import java.io.IOException;
import java.lang.reflect.Constructor;
import java.lang.reflect.Field;
import java.lang.reflect.Method;
import java.lang.reflect.Modifier;
import java.nio.file.Files;
import java.nio.file.Path;
import java.util.ArrayList;
import java.util.List;
import java.util.Set;
import java.util.TreeSet;
import java.util.regex.Matcher;
import java.util.regex.Pattern;

/** The public face of the document, and those rules of LANGUAGE.md that can be read off the class or its source. */
public final class FaceTest {
    private static final Class<?> FACE = InducedSorter.class;

    public static void main(String[] args) throws IOException {
        constants();
        visibleMembers();
        privateMembers();
        source();
        Check.end();
    }

    private static void constants() {
        Check.same("NONE", InducedSorter.NONE, -1);
        Check.same("MAX_CAPACITY", InducedSorter.MAX_CAPACITY, 128);
        Check.same("MAX_SIGMA", InducedSorter.MAX_SIGMA, 64);
    }

    private static void visibleMembers() {
        Check.same("class", Modifier.toString(FACE.getModifiers()), "public final");
        Check.same("parent", FACE.getSuperclass(), Object.class);
        Check.same("interfaces", FACE.getInterfaces().length, 0);
        Check.same("nested classes", FACE.getDeclaredClasses().length, 0);
        Set<String> due = new TreeSet<>(List.of(
            "public static final int InducedSorter.NONE",
            "public static final int InducedSorter.MAX_CAPACITY",
            "public static final int InducedSorter.MAX_SIGMA",
            "public InducedSorter(int,int)",
            "public void InducedSorter.clear()",
            "public boolean InducedSorter.append(int)",
            "public int InducedSorter.length()",
            "public int InducedSorter.symbolAt(int)",
            "public boolean InducedSorter.build()",
            "public boolean InducedSorter.isBuilt()",
            "public int InducedSorter.suffixAt(int)",
            "public int InducedSorter.rankOf(int)",
            "public int InducedSorter.lcpAt(int)",
            "public void InducedSorter.patClear()",
            "public boolean InducedSorter.patAppend(int)",
            "public int InducedSorter.count()",
            "public int InducedSorter.rangeStart()",
            "public int InducedSorter.locate(int)",
            "public int InducedSorter.distinctSubstrings()",
            "public int InducedSorter.longestRepeat()"));
        Set<String> got = new TreeSet<>();
        for (Field f : FACE.getDeclaredFields()) {
            addIfVisible(got, f.getModifiers(), f.toString());
        }
        for (Constructor<?> c : FACE.getDeclaredConstructors()) {
            addIfVisible(got, c.getModifiers(), c.toString());
        }
        for (Method m : FACE.getDeclaredMethods()) {
            addIfVisible(got, m.getModifiers(), m.toString());
        }
        Check.same("visible members", got, due);
    }

    private static void addIfVisible(Set<String> names, int modifiers, String name) {
        if (!Modifier.isPrivate(modifiers)) {
            names.add(name);
        }
    }

    private static void privateMembers() {
        Set<String> plain = Set.of("int", "long", "short", "byte", "char", "boolean",
            "int[]", "long[]", "short[]", "byte[]", "char[]", "boolean[]", "void");
        for (Field f : FACE.getDeclaredFields()) {
            String type = f.getType().getSimpleName();
            Check.same("plain type of field " + f.getName(), plain.contains(type), true);
            if (Modifier.isStatic(f.getModifiers())) {
                Check.same("static field " + f.getName() + " is final", Modifier.isFinal(f.getModifiers()), true);
                Check.same("static field " + f.getName() + " is a number", type.equals("int") || type.equals("long"), true);
            }
        }
        List<String> names = new ArrayList<>();
        for (Method m : FACE.getDeclaredMethods()) {
            names.add(m.getName());
            Check.same("parameters of " + m.getName() + " are few", m.getParameterCount() <= 7, true);
            Check.same("plain answer of " + m.getName(), plain.contains(m.getReturnType().getSimpleName()), true);
            Check.same("answer of " + m.getName() + " is an array", m.getReturnType().isArray(), false);
        }
        Check.same("method names that are used twice", names.size() - new TreeSet<>(names).size(), 0);
    }

    private static void source() throws IOException {
        String text = Files.readString(Path.of("src/main/java/InducedSorter.java"));
        String code = text.replaceAll("(?s)/\\*.*?\\*/", " ").replaceAll("//[^\n]*", " ");
        String[] ruledOut = {"package", "import", "throw", "throws", "try", "catch", "synchronized", "assert",
            "instanceof", "null", "float", "double", "String", "Math", "Integer", "System", "Arrays", "Object",
            "enum", "record", "interface", "protected"};
        for (String word : ruledOut) {
            boolean found = Pattern.compile("\\b" + word + "\\b").matcher(code).find();
            Check.same("word '" + word + "' in the source", found, false);
        }
        Check.same("lambda or method reference in the source", code.contains("->") || code.contains("::"), false);
        arraysAreFieldsOfConstantLength(code);
    }

    private static void arraysAreFieldsOfConstantLength(String code) {
        Pattern field = Pattern.compile("private final \\w+\\[\\] \\w+ = new \\w+\\[(MAX_\\w+|[1-9]\\d*)\\];");
        Matcher made = Pattern.compile("\\bnew\\b").matcher(code);
        int all = 0;
        while (made.find()) {
            all++;
        }
        Matcher fields = field.matcher(code);
        int inFields = 0;
        while (fields.find()) {
            inFields++;
        }
        Check.same("arrays made in fields, of all that is made", inFields, all);
    }
}
