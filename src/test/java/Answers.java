import java.util.ArrayList;
import java.util.List;
import java.util.function.IntUnaryOperator;

/** All that can be seen of an object, gathered without changing it. */
final class Answers {
    private static final int NONE = InducedSorter.NONE;
    private static final int[] WIDE = wideArguments();

    private Answers() {
    }

    /** Every index that can be valid, those next to them, and far ones. */
    static int[] wideArguments() {
        List<Integer> all = new ArrayList<>();
        for (int i = -3; i <= 131; i++) {
            all.add(i);
        }
        int[] far = {-128, 256, 65536, -65536, Integer.MIN_VALUE, Integer.MIN_VALUE + 1,
            Integer.MAX_VALUE - 1, Integer.MAX_VALUE};
        for (int a : far) {
            all.add(a);
        }
        return all.stream().mapToInt(Integer::intValue).toArray();
    }

    static int[] narrowArguments() {
        return new int[] {Integer.MIN_VALUE, -1, 0, 1, 2, 3, 4, 5, 6, 7, 8, 9, Integer.MAX_VALUE};
    }

    static List<Object> of(InducedSorter x, int[] arguments) {
        List<Object> all = new ArrayList<>();
        all.add("length " + x.length());
        all.add("isBuilt " + x.isBuilt());
        all.add("count " + x.count());
        all.add("rangeStart " + x.rangeStart());
        all.add("distinctSubstrings " + x.distinctSubstrings());
        all.add("longestRepeat " + x.longestRepeat());
        for (int a : arguments) {
            all.add("symbolAt(" + a + ") " + x.symbolAt(a));
            all.add("suffixAt(" + a + ") " + x.suffixAt(a));
            all.add("rankOf(" + a + ") " + x.rankOf(a));
            all.add("lcpAt(" + a + ") " + x.lcpAt(a));
            all.add("locate(" + a + ") " + x.locate(a));
        }
        return all;
    }

    static List<Object> ofPattern(InducedSorter x) {
        List<Object> all = new ArrayList<>();
        all.add("count " + x.count());
        all.add("rangeStart " + x.rangeStart());
        for (int k = -1; k <= x.length(); k++) {
            all.add(x.locate(k));
        }
        return all;
    }

    static List<Object> view(InducedSorter x) {
        return of(x, WIDE);
    }

    /** One kind of answer of an object. */
    interface Look {
        List<Object> at(InducedSorter x);
    }

    /** A look for each method that only answers. */
    static List<Look> looks() {
        return List.of(
            x -> List.of("length " + x.length()),
            x -> List.of("isBuilt " + x.isBuilt()),
            x -> List.of("count " + x.count()),
            x -> List.of("rangeStart " + x.rangeStart()),
            x -> List.of("distinctSubstrings " + x.distinctSubstrings()),
            x -> List.of("longestRepeat " + x.longestRepeat()),
            x -> each("symbolAt", x::symbolAt),
            x -> each("suffixAt", x::suffixAt),
            x -> each("rankOf", x::rankOf),
            x -> each("lcpAt", x::lcpAt),
            x -> each("locate", x::locate));
    }

    private static List<Object> each(String name, IntUnaryOperator method) {
        List<Object> all = new ArrayList<>();
        for (int a : WIDE) {
            all.add(name + "(" + a + ") " + method.applyAsInt(a));
        }
        return all;
    }

    /** Compares one by one, so that a failure names the call and not the whole list. */
    static void compare(String where, List<Object> got, List<Object> due) {
        Check.same(where + ": number of answers", got.size(), due.size());
        for (int i = 0; i < Math.min(got.size(), due.size()); i++) {
            Check.same(where, got.get(i), due.get(i));
        }
    }

    static void unchanged(String where, InducedSorter x, List<Object> before) {
        compare(where + " changed something", view(x), before);
    }

    /** Only asks: for tests of what asking may change. */
    static void ask(IntUnaryOperator method) {
        for (int a : WIDE) {
            method.applyAsInt(a);
        }
    }

    /** The answers for 0, 1, ... are the due ones, and NONE for every other argument. */
    static void are(String where, IntUnaryOperator method, int... due) {
        for (int a : WIDE) {
            Check.same(where + " for " + a, method.applyAsInt(a), a >= 0 && a < due.length ? due[a] : NONE);
        }
    }

    static void nothingIsBuilt(String where, InducedSorter x) {
        Check.same(where + ": isBuilt()", x.isBuilt(), false);
        indexIsSilent(where, x);
    }

    static void indexIsSilent(String where, InducedSorter x) {
        Check.same(where + ": count()", x.count(), NONE);
        Check.same(where + ": rangeStart()", x.rangeStart(), NONE);
        Check.same(where + ": distinctSubstrings()", x.distinctSubstrings(), NONE);
        Check.same(where + ": longestRepeat()", x.longestRepeat(), NONE);
        are(where + ": suffixAt", x::suffixAt);
        are(where + ": rankOf", x::rankOf);
        are(where + ": lcpAt", x::lcpAt);
        are(where + ": locate", x::locate);
    }

    static void textIsEmpty(String where, InducedSorter x) {
        Check.same(where + ": length()", x.length(), 0);
        are(where + ": symbolAt", x::symbolAt);
    }
}
