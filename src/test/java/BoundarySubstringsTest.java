import java.util.HashSet;
import java.util.Set;

/** The sentences of promises 16 and 17 and of 'Not promised' that name a boundary case, a test for each. */
public final class BoundarySubstringsTest {
    private static final int NONE = InducedSorter.NONE;

    /** Shortest, full and nearly full texts; all alike, all different, and every symbol twice. */
    private static final String[] TEXTS = {
        "a", "aa", "ab", "aaa", "aab", "baa", "aba", "banana", "mississippi", "a".repeat(127), "a".repeat(128),
        "a".repeat(127) + "b", "b" + "a".repeat(127), "ab".repeat(64), Letters.rising(64),
        Letters.rising(64).repeat(2), Letters.rising(64) + Letters.reversed(Letters.rising(64))};

    public static void main(String[] args) {
        promise16();
        promise17();
        notPromised();
        Sentence.end();
    }

    private static void promise16() {
        Sentence.holds("Promise 16", "if B is false it answers `NONE`.",
            BoundarySubstringsTest::distinctWithoutIndex);
        Sentence.holds("Promise 16", "Otherwise it answers the number of distinct nonempty sequences that occur in T"
            + " as T[i..j] for some 0 <= i <= j < n.", BoundarySubstringsTest::distinctCountsNonemptyOnes);
        Sentence.holds("Promise 16", "This equals n*(n+1)/2 minus the sum of `lcpAt(r)` over 0 <= r < n.",
            BoundarySubstringsTest::distinctFromTheLcps);
        Sentence.holds("Promise 16", "Since n <= 128, n*(n+1)/2 is at most 8256, so no int wrap-around arises.",
            BoundarySubstringsTest::distinctOfTheFullText);
        Sentence.holds("Promise 16", "When B is true (so n >= 1) the answer is at least n and at most n*(n+1)/2.",
            BoundarySubstringsTest::distinctStaysInBounds);
        Sentence.holds("Promise 16", "It changes nothing.",
            () -> State.changesNothing("distinctSubstrings()", InducedSorter::distinctSubstrings));
    }

    private static void distinctWithoutIndex() {
        for (State state : State.all()) {
            if (!state.built()) {
                Check.same("distinctSubstrings() of " + state, state.make().distinctSubstrings(), NONE);
                Check.same("distinctSubstrings() after other texts, " + state,
                    state.makeAfterOthers().distinctSubstrings(), NONE);
            }
        }
        InducedSorter x = Letters.built("banana");
        x.append(0);
        Check.same("distinctSubstrings() after append", x.distinctSubstrings(), NONE);
        x.clear();
        Check.same("distinctSubstrings() after clear()", x.distinctSubstrings(), NONE);
    }

    private static void distinctCountsNonemptyOnes() {
        // The empty sequence would make each of these one more.
        distinctIs("a", 1);
        distinctIs("aa", 2);
        distinctIs("ab", 3);
        distinctIs("banana", 15);
        for (String text : TEXTS) {
            Set<String> windows = new HashSet<>();
            for (int i = 0; i < text.length(); i++) {
                for (int j = i; j < text.length(); j++) {
                    windows.add(text.substring(i, j + 1));
                }
            }
            distinctIs(text, windows.size());
        }
    }

    private static void distinctIs(String text, int due) {
        Check.same("distinctSubstrings() of " + Letters.brief(text), Letters.built(text).distinctSubstrings(), due);
    }

    private static void distinctFromTheLcps() {
        for (String text : TEXTS) {
            InducedSorter x = Letters.built(text);
            int n = text.length();
            int due = n * (n + 1) / 2;
            for (int r = 0; r < n; r++) {
                due -= x.lcpAt(r);
            }
            Check.same("distinctSubstrings() of " + Letters.brief(text), x.distinctSubstrings(), due);
        }
    }

    private static void distinctOfTheFullText() {
        distinctIs("a".repeat(128), 128);
        // Of 8256 windows, the 64 * 65 / 2 in the second half are also in the first.
        distinctIs(Letters.rising(64).repeat(2), 8256 - 2080);
        // As many as 128 symbols out of 64 can have: each occurs twice, and no pair does.
        distinctIs(Letters.rising(64) + Letters.reversed(Letters.rising(64)), 8256 - 64);
    }

    private static void distinctStaysInBounds() {
        for (int n = 1; n <= 128; n++) {
            distinctIs("a".repeat(n), n);
        }
        for (int n = 1; n <= 64; n++) {
            distinctIs(Letters.rising(n), n * (n + 1) / 2);
        }
        for (String text : TEXTS) {
            int n = text.length();
            int got = Letters.built(text).distinctSubstrings();
            Check.within("distinctSubstrings() of " + Letters.brief(text), got, n, n * (n + 1) / 2);
        }
    }

    private static void promise17() {
        Sentence.holds("Promise 17", "if B is false it answers `NONE`.", BoundarySubstringsTest::repeatWithoutIndex);
        Sentence.holds("Promise 17", "Otherwise it answers the greatest L >= 0 such that two different positions i != j"
            + " have T[i..i+L-1] == T[j..j+L-1], both windows lying inside T",
            BoundarySubstringsTest::repeatsLieInsideTheText);
        Sentence.holds("Promise 17", "it answers 0 if no symbol repeats (for instance when n == 1)",
            BoundarySubstringsTest::noRepeatIsZero);
        Sentence.holds("Promise 17", "This equals the greatest `lcpAt(r)` over 0 <= r < n.",
            BoundarySubstringsTest::repeatFromTheLcps);
        Sentence.holds("Promise 17", "The answer is in 0..n-1.", BoundarySubstringsTest::repeatStaysInBounds);
        Sentence.holds("Promise 17", "It changes nothing.",
            () -> State.changesNothing("longestRepeat()", InducedSorter::longestRepeat));
    }

    private static void repeatWithoutIndex() {
        for (State state : State.all()) {
            if (!state.built()) {
                Check.same("longestRepeat() of " + state, state.make().longestRepeat(), NONE);
                Check.same("longestRepeat() after other texts, " + state,
                    state.makeAfterOthers().longestRepeat(), NONE);
            }
        }
        InducedSorter x = Letters.built("banana");
        x.append(0);
        Check.same("longestRepeat() after append", x.longestRepeat(), NONE);
        x.clear();
        Check.same("longestRepeat() after clear()", x.longestRepeat(), NONE);
    }

    private static void repeatsLieInsideTheText() {
        repeatIs("aa", 1);
        repeatIs("aaaa", 3);
        repeatIs("banana", 3);
        repeatIs("abcab", 2);
        repeatIs("abcdab", 2);
        repeatIs("aab", 1);
        repeatIs("baa", 1);
        repeatIs("a".repeat(127) + "b", 126);
        repeatIs("b" + "a".repeat(127), 126);
        repeatIs("ab".repeat(64), 126);
        repeatIs(Letters.rising(64).repeat(2), 64);
    }

    private static void repeatIs(String text, int due) {
        Check.same("longestRepeat() of " + Letters.brief(text), Letters.built(text).longestRepeat(), due);
    }

    private static void noRepeatIsZero() {
        for (int n = 1; n <= 64; n++) {
            repeatIs(Letters.rising(n), 0);
            repeatIs(Letters.reversed(Letters.rising(n)), 0);
        }
        InducedSorter x = Letters.built("aaaa");
        x.clear();
        x.append(5);
        x.build();
        Check.same("longestRepeat() of one symbol after a text with repeats", x.longestRepeat(), 0);
    }

    private static void repeatFromTheLcps() {
        for (String text : TEXTS) {
            InducedSorter x = Letters.built(text);
            int due = 0;
            for (int r = 0; r < text.length(); r++) {
                due = Math.max(due, x.lcpAt(r));
            }
            Check.same("longestRepeat() of " + Letters.brief(text), x.longestRepeat(), due);
        }
    }

    private static void repeatStaysInBounds() {
        for (int n = 1; n <= 128; n++) {
            repeatIs("a".repeat(n), n - 1);
        }
        repeatIs("ab", 0);
        for (String text : TEXTS) {
            int got = Letters.built(text).longestRepeat();
            Check.within("longestRepeat() of " + Letters.brief(text), got, 0, text.length() - 1);
        }
    }

    private static void notPromised() {
        Sentence.holds("Not promised", "only its answer and the answers afterwards are fixed.",
            BoundarySubstringsTest::buildWhenBuiltKeepsTheAnswers);
        Sentence.holds("Not promised", "When B is false, `isBuilt()` answers false and the only promised answers of"
            + " `suffixAt`, `rankOf`, `lcpAt`, `count`, `rangeStart`, `locate`, `distinctSubstrings` and"
            + " `longestRepeat` are `NONE`", BoundarySubstringsTest::withoutIndexAllIsNone);
        Sentence.holds("Not promised", "nothing about any earlier built state is visible.",
            BoundarySubstringsTest::earlierIndexIsNotSeen);
    }

    private static void buildWhenBuiltKeepsTheAnswers() {
        for (State state : State.allBuilt()) {
            InducedSorter x = state.make();
            Check.same("build() when built, " + state, x.build(), true);
            Check.same("build() once more, " + state, x.build(), true);
            state.staysAfter("build() when built", InducedSorter::build);
        }
    }

    private static void withoutIndexAllIsNone() {
        for (State state : State.all()) {
            if (!state.built()) {
                Answers.nothingIsBuilt(state.toString(), state.make());
            } else {
                endIndex(state);
            }
        }
    }

    private static void endIndex(State state) {
        InducedSorter cleared = state.make();
        cleared.clear();
        Answers.nothingIsBuilt("after clear() of " + state, cleared);
        InducedSorter longer = state.make();
        if (longer.append(0)) {
            Answers.nothingIsBuilt("after append(0) to " + state, longer);
        }
    }

    private static void earlierIndexIsNotSeen() {
        for (State state : State.all()) {
            state.isWhere("other texts and patterns", state::makeAfterOthers);
        }
        for (State state : State.allBuilt()) {
            if (!state.textIsFull()) {
                State longer = state.withText(state.text() + "a").withBuilt(false);
                state.becomes(longer, "append(0)", x -> x.append(0));
            }
        }
    }
}
