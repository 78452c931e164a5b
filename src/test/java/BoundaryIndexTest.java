import java.util.List;
import java.util.TreeSet;

/** The sentences of promises 6 to 10 (the index) that name a boundary case, a test for each. */
public final class BoundaryIndexTest {
    private static final int NONE = InducedSorter.NONE;

    /** Shortest, full and nearly full texts; all alike, all different, and differing only at an end. */
    private static final String[] TEXTS = {
        "a", "b", "aa", "ab", "ba", "aaa", "aab", "baa", "aba", "bab", "banana", "mississippi",
        Letters.rising(64), Letters.reversed(Letters.rising(64)),
        "a".repeat(127), "a".repeat(128), "a".repeat(127) + "b", "b" + "a".repeat(127), "b".repeat(127) + "a",
        "ab".repeat(64), "ba".repeat(64), "aab".repeat(42), Letters.rising(64).repeat(2),
        Letters.rising(64) + Letters.reversed(Letters.rising(64))};

    private static final String[] PATTERNS = {
        "", "a", "b", "z", "aa", "ab", "ba", "ana", "banana", "a".repeat(127), "a".repeat(128), "b".repeat(128),
        "ab".repeat(64), Letters.rising(64), Letters.of(63), Letters.of(63, 63)};

    public static void main(String[] args) {
        promise6Call();
        promise6Index();
        promise7();
        promise8();
        promise9();
        promise10();
        Sentence.end();
    }

    private static void promise6Call() {
        Sentence.holds("Promise 6", "If n == 0: refused, answers false, and B stays false.",
            BoundaryIndexTest::emptyTextIsNotBuilt);
        Sentence.holds("Promise 6", "Nothing changes.", BoundaryIndexTest::refusedBuildChangesNothing);
        Sentence.holds("Promise 6", "Otherwise B becomes true and the answer is true.",
            BoundaryIndexTest::everyOtherTextIsBuilt);
        Sentence.holds("Promise 6", "This also holds when B was already true; in that case the answers of every"
            + " method afterwards are the same as before.", BoundaryIndexTest::secondBuildChangesNoAnswer);
        Sentence.holds("Promise 6", "`build()` never changes T or P.", BoundaryIndexTest::buildKeepsTextAndPattern);
    }

    private static void emptyTextIsNotBuilt() {
        for (State state : State.all()) {
            InducedSorter x = state.make();
            x.clear();
            Check.same("build() after clear() of " + state, x.build(), false);
            Check.same("isBuilt() after it", x.isBuilt(), false);
            Check.same("build() again", x.build(), false);
            Check.same("isBuilt() after that", x.isBuilt(), false);
        }
        InducedSorter fresh = new InducedSorter(8, 2);
        Check.same("build() of a new object", fresh.build(), false);
        Check.same("isBuilt() after it", fresh.isBuilt(), false);
        fresh.append(2);
        Check.same("build() after a refused append", fresh.build(), false);
        fresh.patAppend(1);
        Check.same("build() with a pattern but no text", fresh.build(), false);
    }

    private static void refusedBuildChangesNothing() {
        for (State state : State.all()) {
            State empty = state.withText("").withBuilt(false);
            empty.staysAfter("refused build()", InducedSorter::build);
            empty.isWhere("other texts, then a refused build()", () -> {
                InducedSorter x = empty.makeAfterOthers();
                x.build();
                return x;
            });
        }
    }

    private static void everyOtherTextIsBuilt() {
        for (int capacity : new int[] {8, 128}) {
            InducedSorter x = new InducedSorter(capacity, 2);
            for (int n = 1; n <= capacity; n++) {
                x.append(n % 2);
                Check.same("build() of " + n + " symbols", x.build(), true);
                Check.same("isBuilt() with " + n + " symbols", x.isBuilt(), true);
            }
        }
        InducedSorter again = new InducedSorter(8, 2);
        again.build();
        again.append(1);
        Check.same("build() after a refused one", again.build(), true);
        Check.same("isBuilt() after it", again.isBuilt(), true);
    }

    private static void secondBuildChangesNoAnswer() {
        for (State state : State.allBuilt()) {
            InducedSorter x = state.make();
            List<Object> before = Answers.view(x);
            for (int i = 0; i < 3; i++) {
                Check.same("build() when built, " + state, x.build(), true);
                Answers.unchanged("build() when built, " + state, x, before);
            }
            state.staysAfter("build() when built", InducedSorter::build);
        }
    }

    private static void buildKeepsTextAndPattern() {
        for (State state : State.all()) {
            if (!state.text().isEmpty()) {
                InducedSorter x = state.make();
                x.build();
                Check.same("length() after build() of " + state, x.length(), state.text().length());
                for (int i = 0; i < state.text().length(); i++) {
                    Check.same("symbolAt(" + i + ") after build()", x.symbolAt(i), state.text().charAt(i) - 'a');
                }
                patternIs("after build() of " + state, x, state);
            }
        }
    }

    /** The pattern's own length is seen by the room it leaves, its symbols by a text of the same ones. */
    private static void patternIs(String where, InducedSorter x, State state) {
        String pattern = state.pattern();
        if (!pattern.isEmpty()) {
            x.clear();
            Letters.feed(x, pattern);
            x.build();
            Check.same("count() of the pattern in itself " + where, x.count(), 1);
        }
        Check.same("room left in P " + where, State.roomInPattern(x), state.capacity() - pattern.length());
    }

    private static void promise6Index() {
        Sentence.holds("Promise 6", "the values `suffixAt(0)`, ..., `suffixAt(n-1)` are each in 0..n-1"
            + " and pairwise different, so they form a permutation of 0..n-1", BoundaryIndexTest::suffixesAreAllThere);
        Sentence.holds("Promise 6", "`suffixAt(r)` answers `NONE` for every r outside 0..n-1",
            BoundaryIndexTest::noSuffixOutside);
        Sentence.holds("Promise 6", "for every 1 <= r < n, the suffix starting at `suffixAt(r-1)` is strictly smaller"
            + " in ORDER than the suffix starting at `suffixAt(r)`", BoundaryIndexTest::suffixesIncrease);
        Sentence.holds("Promise 6", "`rankOf(suffixAt(r)) == r` for every 0 <= r < n",
            BoundaryIndexTest::ranksTurnSuffixesBack);
        Sentence.holds("Promise 6", "`lcpAt(0) == 0`, and for every 1 <= r < n, `lcpAt(r)` is the greatest L such that"
            + " `suffixAt(r-1)` + L <= n, `suffixAt(r)` + L <= n", BoundaryIndexTest::lcpsStayInsideTheText);
        Sentence.holds("Promise 6", "the occurrences of the current pattern are exactly the positions `suffixAt(r)`"
            + " for `rangeStart()` <= r < `rangeStart()` + `count()`", BoundaryIndexTest::rangeHoldsTheOccurrences);
    }

    private static void suffixesAreAllThere() {
        for (String text : TEXTS) {
            InducedSorter x = Letters.built(text);
            TreeSet<Integer> seen = new TreeSet<>();
            for (int r = 0; r < text.length(); r++) {
                Check.within("suffixAt(" + r + ") of " + Letters.brief(text), x.suffixAt(r), 0, text.length() - 1);
                seen.add(x.suffixAt(r));
            }
            Check.same("number of suffixes of " + Letters.brief(text), seen.size(), text.length());
        }
    }

    private static void noSuffixOutside() {
        for (String text : TEXTS) {
            InducedSorter x = Letters.built(text);
            for (int r : Answers.wideArguments()) {
                if (r < 0 || r >= text.length()) {
                    Check.same("suffixAt(" + r + ") of " + Letters.brief(text), x.suffixAt(r), NONE);
                }
            }
        }
    }

    private static void suffixesIncrease() {
        for (String text : TEXTS) {
            InducedSorter x = Letters.built(text);
            for (int r = 1; r < text.length(); r++) {
                String lower = text.substring(x.suffixAt(r - 1));
                String upper = text.substring(x.suffixAt(r));
                Check.same("rank " + r + " of " + Letters.brief(text) + " is above the one before",
                    lower.compareTo(upper) < 0, true);
            }
        }
    }

    private static void ranksTurnSuffixesBack() {
        for (String text : TEXTS) {
            InducedSorter x = Letters.built(text);
            for (int r = 0; r < text.length(); r++) {
                Check.same("rankOf(suffixAt(" + r + ")) of " + Letters.brief(text), x.rankOf(x.suffixAt(r)), r);
            }
        }
    }

    private static void lcpsStayInsideTheText() {
        for (String text : TEXTS) {
            InducedSorter x = Letters.built(text);
            Check.same("lcpAt(0) of " + Letters.brief(text), x.lcpAt(0), 0);
            for (int r = 1; r < text.length(); r++) {
                int due = shared(text.substring(x.suffixAt(r - 1)), text.substring(x.suffixAt(r)));
                Check.same("lcpAt(" + r + ") of " + Letters.brief(text), x.lcpAt(r), due);
            }
        }
    }

    private static int shared(String one, String other) {
        int length = Math.min(one.length(), other.length());
        while (!one.startsWith(other.substring(0, length))) {
            length--;
        }
        return length;
    }

    private static void rangeHoldsTheOccurrences() {
        for (String text : TEXTS) {
            InducedSorter x = Letters.built(text);
            for (String pattern : PATTERNS) {
                Letters.search(x, pattern);
                int from = x.rangeStart();
                int to = from + x.count();
                for (int r = 0; r < text.length(); r++) {
                    boolean occurs = text.startsWith(pattern, x.suffixAt(r));
                    Check.same("rank " + r + " of " + Letters.brief(text) + " in the range of "
                        + Letters.brief(pattern), r >= from && r < to, occurs);
                }
                Check.within("end of the range of " + Letters.brief(pattern), to, 0, text.length());
            }
        }
    }

    private static void promise7() {
        Sentence.holds("Promise 7", "`isBuilt()` answers B.", BoundaryIndexTest::isBuiltFollowsB);
        Sentence.holds("Promise 7", "It changes nothing.",
            () -> State.changesNothing("isBuilt()", InducedSorter::isBuilt));
    }

    private static void isBuiltFollowsB() {
        InducedSorter x = new InducedSorter(8, 2);
        isBuilt("a new object", x, false);
        x.build();
        isBuilt("a refused build()", x, false);
        x.append(1);
        isBuilt("append", x, false);
        x.build();
        isBuilt("build()", x, true);
        x.build();
        isBuilt("build() again", x, true);
        x.append(2);
        isBuilt("a refused append", x, true);
        x.patAppend(1);
        isBuilt("patAppend", x, true);
        x.patAppend(2);
        isBuilt("a refused patAppend", x, true);
        x.patClear();
        isBuilt("patClear()", x, true);
        x.append(0);
        isBuilt("append when built", x, false);
        State.roomInText(x);
        x.build();
        isBuilt("build() of the full text", x, true);
        x.append(0);
        isBuilt("append to the full text", x, true);
        x.clear();
        isBuilt("clear()", x, false);
        x.build();
        isBuilt("build() of the cleared text", x, false);
    }

    private static void isBuilt(String after, InducedSorter x, boolean due) {
        Check.same("isBuilt() after " + after, x.isBuilt(), due);
        Check.same("isBuilt() asked again after " + after, x.isBuilt(), due);
    }

    private static void promise8() {
        Sentence.holds("Promise 8", "`suffixAt(r)` answers SA[r] if B is true and 0 <= r < n.",
            BoundaryIndexTest::suffixAtFirstAndLast);
        Sentence.holds("Promise 8", "Otherwise (B false, r negative, or r >= n) it answers `NONE`.",
            BoundaryIndexTest::suffixAtOutside);
        Sentence.holds("Promise 8", "It changes nothing.",
            () -> State.changesNothing("suffixAt", x -> Answers.ask(x::suffixAt)));
    }

    private static void suffixAtFirstAndLast() {
        Check.same("suffixAt(0) of one symbol", Letters.built("a").suffixAt(0), 0);
        InducedSorter x = Letters.built("banana");
        Check.same("suffixAt(0) of banana", x.suffixAt(0), 5);
        Check.same("suffixAt(5) of banana", x.suffixAt(5), 2);
        InducedSorter full = Letters.built("b" + "a".repeat(127));
        Check.same("suffixAt(0) of 128 symbols", full.suffixAt(0), 127);
        Check.same("suffixAt(126) of 128 symbols", full.suffixAt(126), 1);
        Check.same("suffixAt(127) of 128 symbols", full.suffixAt(127), 0);
    }

    private static void suffixAtOutside() {
        Answers.are("suffixAt of banana, not built", Letters.holding("banana")::suffixAt);
        Answers.are("suffixAt of banana", Letters.built("banana")::suffixAt, 5, 3, 1, 0, 4, 2);
        Answers.are("suffixAt of one symbol", Letters.built("a")::suffixAt, 0);
        for (State state : State.all()) {
            InducedSorter x = state.makeAfterOthers();
            for (int r : Answers.wideArguments()) {
                if (!state.built() || r < 0 || r >= state.text().length()) {
                    Check.same("suffixAt(" + r + ") of " + state, x.suffixAt(r), NONE);
                }
            }
        }
    }

    private static void promise9() {
        Sentence.holds("Promise 9", "`rankOf(i)` answers the rank r with SA[r] == i if B is true and 0 <= i < n.",
            BoundaryIndexTest::rankOfFirstAndLast);
        Sentence.holds("Promise 9", "Otherwise (B false, i negative, or i >= n) it answers `NONE`.",
            BoundaryIndexTest::rankOfOutside);
        Sentence.holds("Promise 9", "It changes nothing.",
            () -> State.changesNothing("rankOf", x -> Answers.ask(x::rankOf)));
    }

    private static void rankOfFirstAndLast() {
        Check.same("rankOf(0) of one symbol", Letters.built("a").rankOf(0), 0);
        InducedSorter x = Letters.built("banana");
        Check.same("rankOf(0) of banana", x.rankOf(0), 3);
        Check.same("rankOf(5) of banana", x.rankOf(5), 0);
        InducedSorter full = Letters.built("b" + "a".repeat(127));
        Check.same("rankOf(0) of 128 symbols", full.rankOf(0), 127);
        Check.same("rankOf(1) of 128 symbols", full.rankOf(1), 126);
        Check.same("rankOf(127) of 128 symbols", full.rankOf(127), 0);
    }

    private static void rankOfOutside() {
        Answers.are("rankOf of banana, not built", Letters.holding("banana")::rankOf);
        Answers.are("rankOf of banana", Letters.built("banana")::rankOf, 3, 2, 5, 1, 4, 0);
        Answers.are("rankOf of one symbol", Letters.built("a")::rankOf, 0);
        for (State state : State.all()) {
            InducedSorter x = state.makeAfterOthers();
            for (int i : Answers.wideArguments()) {
                if (!state.built() || i < 0 || i >= state.text().length()) {
                    Check.same("rankOf(" + i + ") of " + state, x.rankOf(i), NONE);
                }
            }
        }
    }

    private static void promise10() {
        Sentence.holds("Promise 10", "If B is false, or r < 0, or r >= n: answers `NONE`.",
            BoundaryIndexTest::lcpAtOutside);
        Sentence.holds("Promise 10", "If r == 0: answers 0.", BoundaryIndexTest::lcpAtZero);
        Sentence.holds("Promise 10", "Otherwise answers lcp(suffix SA[r-1], suffix SA[r]).",
            BoundaryIndexTest::lcpAtFirstAndLast);
        Sentence.holds("Promise 10", "For 1 <= r < n the answer lies in 0..n-1, because both suffixes are nonempty"
            + " and at most one of them can have length n.", BoundaryIndexTest::lcpAtStaysBelowN);
        Sentence.holds("Promise 10", "It changes nothing.",
            () -> State.changesNothing("lcpAt", x -> Answers.ask(x::lcpAt)));
    }

    private static void lcpAtOutside() {
        Answers.are("lcpAt of banana, not built", Letters.holding("banana")::lcpAt);
        Answers.are("lcpAt of banana", Letters.built("banana")::lcpAt, 0, 1, 3, 0, 0, 2);
        Answers.are("lcpAt of one symbol", Letters.built("a")::lcpAt, 0);
        for (State state : State.all()) {
            InducedSorter x = state.makeAfterOthers();
            for (int r : Answers.wideArguments()) {
                if (!state.built() || r < 0 || r >= state.text().length()) {
                    Check.same("lcpAt(" + r + ") of " + state, x.lcpAt(r), NONE);
                }
            }
        }
    }

    private static void lcpAtZero() {
        for (String text : TEXTS) {
            Check.same("lcpAt(0) of " + Letters.brief(text), Letters.built(text).lcpAt(0), 0);
        }
        for (State state : State.allBuilt()) {
            Check.same("lcpAt(0) after other texts, " + state, state.makeAfterOthers().lcpAt(0), 0);
        }
    }

    private static void lcpAtFirstAndLast() {
        Check.same("lcpAt(1) of ab", Letters.built("ab").lcpAt(1), 0);
        Check.same("lcpAt(1) of aa", Letters.built("aa").lcpAt(1), 1);
        InducedSorter x = Letters.built("banana");
        Check.same("lcpAt(1) of banana", x.lcpAt(1), 1);
        Check.same("lcpAt(5) of banana", x.lcpAt(5), 2);
        InducedSorter full = Letters.built("b" + "a".repeat(127));
        Check.same("lcpAt(1) of 128 symbols", full.lcpAt(1), 1);
        Check.same("lcpAt(126) of 128 symbols", full.lcpAt(126), 126);
        Check.same("lcpAt(127) of 128 symbols", full.lcpAt(127), 0);
    }

    private static void lcpAtStaysBelowN() {
        for (String text : TEXTS) {
            InducedSorter x = Letters.built(text);
            for (int r = 1; r < text.length(); r++) {
                Check.within("lcpAt(" + r + ") of " + Letters.brief(text), x.lcpAt(r), 0, text.length() - 1);
            }
        }
        for (int n = 2; n <= 128; n++) {
            Check.same("lcpAt(n - 1) of one symbol, n = " + n, Letters.built("a".repeat(n)).lcpAt(n - 1), n - 1);
        }
        for (int n = 2; n <= 64; n++) {
            Check.same("lcpAt(n - 1) of n symbols, n = " + n, Letters.built(Letters.rising(n)).lcpAt(n - 1), 0);
        }
    }
}
