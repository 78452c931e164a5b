/** The sentences under 'What it is' and 'Definitions used throughout' that name a boundary case, a test for each. */
public final class BoundaryDefinitionsTest {
    private static final int NONE = InducedSorter.NONE;
    private static final int MIN = Integer.MIN_VALUE;
    private static final int MAX = Integer.MAX_VALUE;
    private static final String INTRODUCTION = "What it is";
    private static final String DEFINITIONS = "Definitions used throughout";

    public static void main(String[] args) {
        introduction();
        sequences();
        order();
        occurrences();
        builtFlag();
        arguments();
        Sentence.end();
    }

    private static void introduction() {
        Sentence.holds(INTRODUCTION, "the k-th leftmost occurrence (counting from 0)",
            BoundaryDefinitionsTest::occurrencesCountFromZero);
        Sentence.holds(INTRODUCTION, "Independently of P it also answers the number of distinct substrings of T"
            + " and the length of the longest repeated substring.",
            BoundaryDefinitionsTest::substringAnswersDoNotDependOnP);
        Sentence.holds(INTRODUCTION, "`NONE = -1`: the answer meaning 'no such value' or 'not built'.",
            BoundaryDefinitionsTest::noneIsMinusOne);
        Sentence.holds(INTRODUCTION, "`MAX_CAPACITY = 128`: the greatest capacity.",
            BoundaryDefinitionsTest::greatestCapacity);
        Sentence.holds(INTRODUCTION, "`MAX_SIGMA = 64`: the greatest alphabet size.",
            BoundaryDefinitionsTest::greatestAlphabet);
    }

    private static void occurrencesCountFromZero() {
        InducedSorter x = Letters.searching("baab", "a");
        Check.same("locate(0)", x.locate(0), 1);
        Check.same("locate(1)", x.locate(1), 2);
        Check.same("locate(2)", x.locate(2), NONE);
    }

    private static void substringAnswersDoNotDependOnP() {
        String[] patterns = {"", "a", "ana", "banana", "bananas", "zzz", "a".repeat(128)};
        for (String pattern : patterns) {
            InducedSorter x = Letters.searching("banana", pattern);
            Check.same("distinctSubstrings() with P=" + pattern, x.distinctSubstrings(), 15);
            Check.same("longestRepeat() with P=" + pattern, x.longestRepeat(), 3);
        }
    }

    private static void noneIsMinusOne() {
        Check.same("NONE", InducedSorter.NONE, -1);
        InducedSorter x = Letters.holding("ab");
        Check.same("count(), not built", x.count(), -1);
        Check.same("suffixAt(0), not built", x.suffixAt(0), -1);
        Check.same("symbolAt(2), no such value", x.symbolAt(2), -1);
        x.build();
        Check.same("suffixAt(2), no such value", x.suffixAt(2), -1);
        Check.same("locate(2), no such value", x.locate(2), -1);
    }

    private static void greatestCapacity() {
        Check.same("MAX_CAPACITY", InducedSorter.MAX_CAPACITY, 128);
        InducedSorter x = new InducedSorter(InducedSorter.MAX_CAPACITY, 1);
        Check.same("room for T", State.roomInText(x), 128);
        InducedSorter y = new InducedSorter(InducedSorter.MAX_CAPACITY + 1, 1);
        Check.same("room for T, one more asked for", State.roomInText(y), 128);
    }

    private static void greatestAlphabet() {
        Check.same("MAX_SIGMA", InducedSorter.MAX_SIGMA, 64);
        InducedSorter x = new InducedSorter(8, InducedSorter.MAX_SIGMA);
        Check.same("number of symbols", State.symbolsOfText(x).size(), 64);
        InducedSorter y = new InducedSorter(8, InducedSorter.MAX_SIGMA + 1);
        Check.same("number of symbols, one more asked for", State.symbolsOfText(y).size(), 64);
    }

    private static void sequences() {
        Sentence.holds(DEFINITIONS, "where n = `length()` and 0 <= n <= capacity",
            BoundaryDefinitionsTest::textIsEmptyToFull);
        Sentence.holds(DEFINITIONS, "where 0 <= m <= capacity", BoundaryDefinitionsTest::patternIsEmptyToFull);
        Sentence.holds(DEFINITIONS, "an int s with 0 <= s < sigma", BoundaryDefinitionsTest::symbolsAreBelowSigma);
        Sentence.holds(DEFINITIONS, "Symbols are compared as ints.", BoundaryDefinitionsTest::symbolsCompareAsInts);
        Sentence.holds(DEFINITIONS, "(0 <= i < n): the sequence T[i..n-1].",
            BoundaryDefinitionsTest::suffixesReachTheEnd);
        Sentence.holds(DEFINITIONS, "It is never empty.", BoundaryDefinitionsTest::noSuffixIsEmpty);
    }

    private static void textIsEmptyToFull() {
        for (int capacity : new int[] {8, 9, 127, 128}) {
            InducedSorter x = new InducedSorter(capacity, 2);
            for (int n = 0; n < capacity; n++) {
                Check.same("length() within capacity " + capacity, x.length(), n);
                x.append(1);
            }
            Check.same("length() at capacity " + capacity, x.length(), capacity);
            x.append(1);
            Check.same("length() after one more than " + capacity, x.length(), capacity);
        }
    }

    private static void patternIsEmptyToFull() {
        for (int capacity : new int[] {8, 9, 127, 128}) {
            InducedSorter x = new InducedSorter(capacity, 2);
            State.roomInText(x);
            x.build();
            // In a full text of one symbol a pattern of m of them occurs capacity - m + 1 times.
            Check.same("count() of the empty pattern", x.count(), capacity);
            for (int m = 1; m <= capacity; m++) {
                x.patAppend(0);
                Check.same("count() at m = " + m + " of " + capacity, x.count(), capacity - m + 1);
            }
            x.patAppend(0);
            Check.same("count() after one more than " + capacity, x.count(), 1);
        }
    }

    private static void symbolsAreBelowSigma() {
        for (int sigma : new int[] {1, 2, 63, 64}) {
            InducedSorter x = new InducedSorter(8, sigma);
            Check.same("append(-1), sigma " + sigma, x.append(-1), false);
            Check.same("append(0), sigma " + sigma, x.append(0), true);
            Check.same("append(sigma - 1), sigma " + sigma, x.append(sigma - 1), true);
            Check.same("append(sigma), sigma " + sigma, x.append(sigma), false);
            Check.same("patAppend(-1), sigma " + sigma, x.patAppend(-1), false);
            Check.same("patAppend(0), sigma " + sigma, x.patAppend(0), true);
            Check.same("patAppend(sigma - 1), sigma " + sigma, x.patAppend(sigma - 1), true);
            Check.same("patAppend(sigma), sigma " + sigma, x.patAppend(sigma), false);
        }
    }

    private static void symbolsCompareAsInts() {
        for (int low = 0; low < 64; low++) {
            for (int high = low + 1; high < 64; high++) {
                String pair = low + " and " + high;
                InducedSorter falling = Letters.searching(Letters.of(high, low), Letters.of(high));
                Check.same("suffixAt(0) of the falling " + pair, falling.suffixAt(0), 1);
                Check.same("rangeStart() of the greater of " + pair, falling.rangeStart(), 1);
                InducedSorter rising = Letters.searching(Letters.of(low, high), Letters.of(low));
                Check.same("suffixAt(0) of the rising " + pair, rising.suffixAt(0), 0);
                Check.same("rangeStart() of the lesser of " + pair, rising.rangeStart(), 0);
            }
        }
    }

    private static void suffixesReachTheEnd() {
        // The first suffix is the whole text, the last one is its last symbol.
        Check.same("count() of the whole text", Letters.searching("abcab", "abcab").count(), 1);
        Check.same("rankOf(0) of a text with its last symbol last", Letters.built("aab").rankOf(0), 0);
        Check.same("rankOf(2) of a text with its last symbol last", Letters.built("aab").rankOf(2), 2);
        Check.same("rankOf(127), a last symbol that is the greatest",
            Letters.built("a".repeat(127) + "b").rankOf(127), 127);
        Check.same("rankOf(127), a last symbol that is the least",
            Letters.built("b".repeat(127) + "a").rankOf(127), 0);
    }

    private static void noSuffixIsEmpty() {
        InducedSorter x = Letters.built("ba");
        // An empty suffix would be the smallest of all, and start at n.
        Answers.are("suffixAt", x::suffixAt, 1, 0);
        Check.same("rankOf(n)", x.rankOf(2), NONE);
        Check.same("count() of the empty pattern", x.count(), 2);
        Letters.search(x, "a");
        Check.same("rangeStart() of a pattern that only an empty suffix is below", x.rangeStart(), 0);
    }

    private static void order() {
        Sentence.holds(DEFINITIONS, "Find the least k with X[k] != Y[k].",
            BoundaryDefinitionsTest::firstDifferenceDecides);
        Sentence.holds(DEFINITIONS, "If such a k exists, X < Y exactly when X[k] < Y[k].",
            BoundaryDefinitionsTest::differenceCountsBeforeLength);
        Sentence.holds(DEFINITIONS, "If no such k exists below the shorter length,"
            + " the shorter sequence is the smaller one.", BoundaryDefinitionsTest::shorterIsSmaller);
        Sentence.holds(DEFINITIONS, "Equal lengths with no such k means X and Y are equal.",
            BoundaryDefinitionsTest::equalIsNotSmaller);
        Sentence.holds(DEFINITIONS, "the greatest L such that X and Y both have at least L symbols"
            + " and X[k] == Y[k] for all k < L", BoundaryDefinitionsTest::lcpEndsWithTheShorterOrAtTheFirstDifference);
        Sentence.holds(DEFINITIONS, "when B is true, SA[r] for 0 <= r < n is the start of the suffix of rank r,"
            + " the ranks being the positions of the suffixes when all n suffixes are put in increasing ORDER.",
            BoundaryDefinitionsTest::ranksIncreaseFromZero);
        Sentence.holds(DEFINITIONS, "All suffixes are distinct (their lengths differ), so SA is unique.",
            BoundaryDefinitionsTest::repeatingTextsHaveOneOrder);
    }

    private static void firstDifferenceDecides() {
        // 'abz' against 'aca': b before c, whatever z and a say.
        InducedSorter x = Letters.built("abzaca");
        Answers.are("suffixAt", x::suffixAt, 5, 0, 3, 1, 4, 2);
        InducedSorter below = Letters.searching("abz", "aca");
        Check.same("rangeStart() of aca in abz", below.rangeStart(), 1);
        InducedSorter above = Letters.searching("aca", "abz");
        Check.same("rangeStart() of abz in aca", above.rangeStart(), 1);
        InducedSorter late = Letters.searching("a".repeat(127) + "b", "a".repeat(127) + "c");
        Check.same("rangeStart() where the last of 128 differs from suffix 0", late.rangeStart(), 1);
    }

    private static void differenceCountsBeforeLength() {
        Answers.are("suffixAt, the longest first", Letters.built("aab")::suffixAt, 0, 1, 2);
        Answers.are("suffixAt, the shortest first", Letters.built("bba")::suffixAt, 2, 1, 0);
        Check.same("rangeStart() of the longer but smaller pattern",
            Letters.searching("b", "aaaa").rangeStart(), 0);
        Check.same("rangeStart() of the longer and greater pattern",
            Letters.searching("b", "caaa").rangeStart(), 1);
        Check.same("rangeStart() of the shorter but greater pattern",
            Letters.searching("abbb", "b").rangeStart(), 1);
        Check.same("rangeStart() of the shorter and smaller pattern",
            Letters.searching("bbbb", "a").rangeStart(), 0);
    }

    private static void shorterIsSmaller() {
        Answers.are("suffixAt of abab", Letters.built("abab")::suffixAt, 2, 0, 3, 1);
        Answers.are("suffixAt of aa", Letters.built("aa")::suffixAt, 1, 0);
        Check.same("rangeStart(), the suffix is the shorter one",
            Letters.searching("ab", "aba").rangeStart(), 1);
        Check.same("rangeStart(), the pattern is the shorter one",
            Letters.searching("aba", "ab").rangeStart(), 1);
        Check.same("rangeStart(), the suffix is one symbol shorter than the full pattern",
            Letters.searching("a".repeat(127), "a".repeat(128)).rangeStart(), 127);
    }

    private static void equalIsNotSmaller() {
        InducedSorter x = Letters.searching("ab", "ab");
        Check.same("rangeStart() of the whole text", x.rangeStart(), 0);
        Check.same("count() of the whole text", x.count(), 1);
        Check.same("rangeStart() of one symbol", Letters.searching("a", "a").rangeStart(), 0);
        Check.same("rangeStart() of a full text, where 127 suffixes are shorter",
            Letters.searching("a".repeat(128), "a".repeat(128)).rangeStart(), 127);
    }

    private static void lcpEndsWithTheShorterOrAtTheFirstDifference() {
        Answers.are("lcpAt, one suffix begins the other", Letters.built("abab")::lcpAt, 0, 2, 0, 1);
        // Suffixes abcazc and azc agree again after their difference.
        Answers.are("lcpAt, agreeing again", Letters.built("abcazc")::lcpAt, 0, 1, 0, 0, 1, 0);
        Answers.are("lcpAt, nothing shared", Letters.built("abc")::lcpAt, 0, 0, 0);
        Check.same("lcpAt(127) of one symbol", Letters.built("a".repeat(128)).lcpAt(127), 127);
    }

    private static void ranksIncreaseFromZero() {
        InducedSorter x = Letters.built("cab");
        Answers.are("suffixAt", x::suffixAt, 1, 2, 0);
        Answers.are("rankOf", x::rankOf, 2, 0, 1);
    }

    private static void repeatingTextsHaveOneOrder() {
        for (int n : new int[] {1, 2, 8, 127, 128}) {
            InducedSorter x = Letters.built("a".repeat(n));
            for (int r = 0; r < n; r++) {
                Check.same("suffixAt(" + r + ") of one symbol, n = " + n, x.suffixAt(r), n - 1 - r);
            }
        }
    }

    private static void occurrences() {
        Sentence.holds(DEFINITIONS, "a position i with 0 <= i, i + m <= n, and T[i+k] == P[k] for all k < m",
            BoundaryDefinitionsTest::occurrencesLieInsideTheText);
        Sentence.holds(DEFINITIONS, "When m == 0, every i in 0..n-1 is an occurrence (n occurrences in all).",
            BoundaryDefinitionsTest::emptyPatternOccursEverywhere);
    }

    private static void occurrencesLieInsideTheText() {
        Answers.are("locate at both ends", Letters.searching("abcab", "ab")::locate, 0, 3);
        Answers.are("locate of what the end cuts off", Letters.searching("abcab", "abc")::locate, 0);
        Answers.are("locate of the whole text", Letters.searching("abcab", "abcab")::locate, 0);
        Answers.are("locate where the first symbol differs", Letters.searching("abcab", "bb")::locate);
        Answers.are("locate where the last symbol differs", Letters.searching("abcab", "abcaa")::locate);
        Answers.are("locate of one symbol at the end", Letters.searching("aab", "b")::locate, 2);
        Answers.are("locate of overlapping ones", Letters.searching("aaa", "aa")::locate, 0, 1);
    }

    private static void emptyPatternOccursEverywhere() {
        for (int n : new int[] {1, 2, 127, 128}) {
            InducedSorter x = Letters.built("a".repeat(n));
            Check.same("count(), n = " + n, x.count(), n);
            Check.same("locate(0), n = " + n, x.locate(0), 0);
            Check.same("locate(n - 1), n = " + n, x.locate(n - 1), n - 1);
            Check.same("locate(n), n = " + n, x.locate(n), NONE);
        }
    }

    private static void builtFlag() {
        Sentence.holds(DEFINITIONS, "When B is true, the answers described below describe the CURRENT text T.",
            BoundaryDefinitionsTest::answersDescribeTheCurrentText);
        Sentence.holds(DEFINITIONS, "B is false on a fresh object.", BoundaryDefinitionsTest::freshIsNotBuilt);
        Sentence.holds(DEFINITIONS, "`clear()` and every successful `append()` set B false.",
            BoundaryDefinitionsTest::clearAndAppendEndTheIndex);
        Sentence.holds(DEFINITIONS, "A successful `build()` sets B true.",
            BoundaryDefinitionsTest::buildMakesTheIndex);
        Sentence.holds(DEFINITIONS, "Nothing else changes B.", BoundaryDefinitionsTest::otherCallsKeepB);
        Sentence.holds(DEFINITIONS, "Pattern calls never change B.", BoundaryDefinitionsTest::patternCallsKeepB);
    }

    private static void answersDescribeTheCurrentText() {
        InducedSorter x = Letters.searching("aaaaaa", "a");
        Letters.feed(x, "b");
        if (x.isBuilt()) {
            currentIs("a longer text, built already", x, Letters.searching("aaaaaab", "a"));
        }
        x.build();
        currentIs("a longer text", x, Letters.searching("aaaaaab", "a"));
        x.clear();
        Letters.feed(x, "ba");
        x.build();
        currentIs("a shorter text", x, Letters.searching("ba", "a"));
        x.clear();
        Letters.feed(x, "ab");
        x.build();
        currentIs("another text of the same length", x, Letters.searching("ab", "a"));
    }

    private static void currentIs(String where, InducedSorter x, InducedSorter fresh) {
        Answers.compare(where, Answers.view(x), Answers.view(fresh));
    }

    private static void freshIsNotBuilt() {
        for (int argument : new int[] {MIN, 0, 1, 8, 64, 128, MAX}) {
            Check.same("isBuilt()", new InducedSorter(argument, argument).isBuilt(), false);
        }
    }

    private static void clearAndAppendEndTheIndex() {
        for (State state : State.allBuilt()) {
            InducedSorter cleared = state.make();
            cleared.clear();
            Check.same("isBuilt() after clear() of " + state, cleared.isBuilt(), false);
            InducedSorter longer = state.make();
            if (longer.append(0)) {
                Check.same("isBuilt() after append(0) to " + state, longer.isBuilt(), false);
            }
        }
        InducedSorter x = new InducedSorter(8, 2);
        for (int n = 1; n <= 8; n++) {
            x.append(1);
            Check.same("isBuilt() after append number " + n, x.isBuilt(), false);
            x.build();
        }
    }

    private static void buildMakesTheIndex() {
        for (State state : State.all()) {
            InducedSorter x = state.make();
            if (x.build()) {
                Check.same("isBuilt() after build() of " + state, x.isBuilt(), true);
            }
        }
        InducedSorter x = new InducedSorter(8, 2);
        for (int n = 1; n <= 8; n++) {
            x.append(1);
            x.build();
            Check.same("isBuilt() after build() of " + n + " symbols", x.isBuilt(), true);
        }
    }

    private static void otherCallsKeepB() {
        for (State state : State.all()) {
            InducedSorter x = state.make();
            refusedAppends(x, state);
            if (state.text().isEmpty()) {
                x.build();
            }
            Answers.view(x);
            Check.same("isBuilt() after refused and looking calls at " + state, x.isBuilt(), state.built());
        }
    }

    private static void refusedAppends(InducedSorter x, State state) {
        for (int s : new int[] {MIN, -1, state.sigma(), 64, MAX}) {
            x.append(s);
        }
        if (state.textIsFull()) {
            x.append(0);
        }
    }

    private static void patternCallsKeepB() {
        for (State state : State.all()) {
            InducedSorter x = state.make();
            x.patAppend(0);
            Check.same("isBuilt() after patAppend(0) at " + state, x.isBuilt(), state.built());
            x.patAppend(-1);
            x.patAppend(state.sigma());
            Check.same("isBuilt() after wrong patAppends at " + state, x.isBuilt(), state.built());
            State.roomInPattern(x);
            Check.same("isBuilt() after the pattern was filled at " + state, x.isBuilt(), state.built());
            x.patClear();
            Check.same("isBuilt() after patClear() at " + state, x.isBuilt(), state.built());
            x.patClear();
            Check.same("isBuilt() after a second patClear() at " + state, x.isBuilt(), state.built());
        }
    }

    private static void arguments() {
        Sentence.holds(DEFINITIONS, "A refused call changes nothing at all.",
            BoundaryDefinitionsTest::refusedCallsChangeNothing);
        Sentence.holds(DEFINITIONS, "Arguments may be any ints: out-of-range constructor arguments are clamped"
            + " (Promise 1)", BoundaryDefinitionsTest::anyIntsMakeAnObject);
        Sentence.holds(DEFINITIONS, "out-of-range method arguments lead to the stated refusal or `NONE` answer.",
            BoundaryDefinitionsTest::anyIntsAreAnswered);
    }

    private static void refusedCallsChangeNothing() {
        for (State state : State.all()) {
            state.staysAfter("refused append", x -> refusedAppends(x, state));
            state.staysAfter("refused patAppend", x -> refusedPatAppends(x, state));
            if (state.text().isEmpty()) {
                state.staysAfter("refused build()", InducedSorter::build);
            }
        }
    }

    private static void refusedPatAppends(InducedSorter x, State state) {
        for (int s : new int[] {MIN, -1, state.sigma(), 64, MAX}) {
            x.patAppend(s);
        }
        if (state.patternIsFull()) {
            x.patAppend(0);
        }
    }

    private static void anyIntsMakeAnObject() {
        for (int capacity : Answers.wideArguments()) {
            for (int sigma : new int[] {MIN, -1, 0, 1, 64, 65, MAX}) {
                String where = "new InducedSorter(" + capacity + ", " + sigma + ")";
                InducedSorter x = new InducedSorter(capacity, sigma);
                int room = Math.max(8, Math.min(128, capacity));
                Check.same(where + ": room for T", State.roomInText(x), room);
                int symbols = Math.max(1, Math.min(64, sigma));
                Check.same(where + ": symbols", State.symbolsOfText(x).size(), symbols);
            }
        }
    }

    private static void anyIntsAreAnswered() {
        int[] far = {MIN, MIN + 1, -65536, -129, -128, -64, -1, 128, 129, 192, 256, 65536, MAX - 128, MAX - 1, MAX};
        for (State state : State.all()) {
            for (int a : far) {
                farArgument(a, state.make(), state.toString());
            }
        }
    }

    private static void farArgument(int a, InducedSorter x, String where) {
        String of = "(" + a + ") at " + where;
        Check.same("append" + of, x.append(a), false);
        Check.same("patAppend" + of, x.patAppend(a), false);
        Check.same("symbolAt" + of, x.symbolAt(a), NONE);
        Check.same("suffixAt" + of, x.suffixAt(a), NONE);
        Check.same("rankOf" + of, x.rankOf(a), NONE);
        Check.same("lcpAt" + of, x.lcpAt(a), NONE);
        Check.same("locate" + of, x.locate(a), NONE);
    }
}
