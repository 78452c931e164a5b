import java.lang.reflect.Constructor;
import java.lang.reflect.Field;
import java.lang.reflect.Method;
import java.lang.reflect.Modifier;
import java.util.Set;
import java.util.TreeSet;

/** The public face: each line of it is there, and nothing else can be seen from outside. */
public final class FaceTest {
    private static final Class<?> FACE = InducedSorter.class;
    private static final String SECTION = "The public face";
    private static final String CLASS_LINE = "public final class InducedSorter {";

    private static final String[] CONSTANTS = {
        "public static final int NONE = -1;",
        "public static final int MAX_CAPACITY = 128;",
        "public static final int MAX_SIGMA = 64;"};

    private static final String[] CALLS = {
        "public InducedSorter(int capacity, int sigma)",
        "public void clear()",
        "public boolean append(int s)",
        "public int length()",
        "public int symbolAt(int i)",
        "public boolean build()",
        "public boolean isBuilt()",
        "public int suffixAt(int r)",
        "public int rankOf(int i)",
        "public int lcpAt(int r)",
        "public void patClear()",
        "public boolean patAppend(int s)",
        "public int count()",
        "public int rangeStart()",
        "public int locate(int k)",
        "public int distinctSubstrings()",
        "public int longestRepeat()"};

    public static void main(String[] args) {
        Sentence.holds(SECTION, CLASS_LINE, FaceTest::classIsPublicFinalAndAlone);
        for (String line : CONSTANTS) {
            Sentence.holds(SECTION, line, () -> Check.same("it is there", seenConstants().contains(line), true));
        }
        for (String line : CALLS) {
            Sentence.holds(SECTION, line, () -> Check.same("it is there", seenCalls().contains(bare(line)), true));
        }
        nothingElseIsSeen();
        Sentence.end();
    }

    private static void classIsPublicFinalAndAlone() {
        Check.same("class", Modifier.toString(FACE.getModifiers()), "public final");
        Check.same("package", FACE.getPackageName(), "");
        Check.same("parent", FACE.getSuperclass(), Object.class);
        Check.same("interfaces", FACE.getInterfaces().length, 0);
        Check.same("nested classes", FACE.getDeclaredClasses().length, 0);
    }

    private static void nothingElseIsSeen() {
        Set<String> calls = new TreeSet<>();
        for (String line : CALLS) {
            calls.add(bare(line));
        }
        Check.same("constructors and methods that are seen", seenCalls(), calls);
        Check.same("fields that are seen", seenConstants(), new TreeSet<>(Set.of(CONSTANTS)));
    }

    /** The line as reflection tells it: without the names of the parameters. */
    private static String bare(String line) {
        return line.replaceAll("int \\w+([,)])", "int$1").replace(", ", ",");
    }

    private static Set<String> seenCalls() {
        Set<String> seen = new TreeSet<>();
        for (Constructor<?> c : FACE.getDeclaredConstructors()) {
            if (!Modifier.isPrivate(c.getModifiers())) {
                seen.add(c.toString());
            }
        }
        for (Method m : FACE.getDeclaredMethods()) {
            if (!Modifier.isPrivate(m.getModifiers())) {
                seen.add(m.toString().replace("InducedSorter.", ""));
            }
        }
        return seen;
    }

    private static Set<String> seenConstants() {
        Set<String> seen = new TreeSet<>();
        for (Field f : FACE.getDeclaredFields()) {
            if (!Modifier.isPrivate(f.getModifiers())) {
                seen.add(f.toString().replace("InducedSorter.", "") + " = " + valueOf(f) + ";");
            }
        }
        return seen;
    }

    private static Object valueOf(Field f) {
        try {
            return Modifier.isStatic(f.getModifiers()) ? f.get(null) : "a value of each object";
        } catch (IllegalAccessException e) {
            return "unseen";
        }
    }
}
