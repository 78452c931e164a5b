import java.util.ArrayList;
import java.util.List;
import java.util.function.Consumer;

/** The sentences of promises 1 to 5 (construction and the text) that name a boundary case, a test for each. */
public final class BoundaryTextTest {
    private static final int NONE = InducedSorter.NONE;
    private static final int MIN = Integer.MIN_VALUE;
    private static final int MAX = Integer.MAX_VALUE;

    public static void main(String[] args) {
        promise1Capacity();
        promise1Sigma();
        promise1NewObject();
        promise2();
        promise3();
        promise4();
        promise5();
        Sentence.end();
    }

    private static void promise1Capacity() {
        Sentence.holds("Promise 1", "`capacity` is the greatest length of T and also the greatest length of P.",
            BoundaryTextTest::capacityBoundsBothAlone);
        Sentence.holds("Promise 1", "It is clamped into 8..128: any value below 8 becomes 8",
            () -> capacityBecomes(8, MIN + 1, -65536, -128, -8, -1, 0, 1, 6, 7));
        Sentence.holds("Promise 1", "any value above 128 becomes 128",
            () -> capacityBecomes(128, 129, 130, 136, 255, 256, 257, 65536 + 9, MAX - 1));
        Sentence.holds("Promise 1", "values in 8..128 are kept", BoundaryTextTest::capacitiesAreKept);
        Sentence.holds("Promise 1", "This includes `Integer.MIN_VALUE` and `Integer.MAX_VALUE`.",
            BoundaryTextTest::extremeCapacities);
    }

    private static void capacityBoundsBothAlone() {
        for (int capacity : new int[] {8, 9, 127, 128}) {
            InducedSorter x = new InducedSorter(capacity, 2);
            Check.same("room for T, capacity " + capacity, State.roomInText(x), capacity);
            Check.same("room for P beside a full T", State.roomInPattern(x), capacity);
            InducedSorter y = new InducedSorter(capacity, 2);
            Check.same("room for P, capacity " + capacity, State.roomInPattern(y), capacity);
            Check.same("room for T beside a full P", State.roomInText(y), capacity);
        }
    }

    private static void capacityBecomes(int due, int... given) {
        for (int capacity : given) {
            InducedSorter x = new InducedSorter(capacity, 2);
            Check.same("room for T, capacity " + capacity, State.roomInText(x), due);
            Check.same("length() when full, capacity " + capacity, x.length(), due);
            Check.same("room for P, capacity " + capacity, State.roomInPattern(x), due);
        }
    }

    private static void capacitiesAreKept() {
        for (int capacity = 8; capacity <= 128; capacity++) {
            capacityBecomes(capacity, capacity);
        }
    }

    private static void extremeCapacities() {
        capacityBecomes(8, MIN);
        capacityBecomes(128, MAX);
    }

    private static void promise1Sigma() {
        Sentence.holds("Promise 1", "It is clamped into 1..64: any value below 1 becomes 1",
            () -> sigmaBecomes(1, MIN, MIN + 1, -65536, -64, -2, -1, 0));
        Sentence.holds("Promise 1", "any value above 64 becomes 64",
            () -> sigmaBecomes(64, 65, 66, 127, 128, 256, 65536 + 1, MAX - 1, MAX));
        Sentence.holds("Promise 1", "values in 1..64 are kept", BoundaryTextTest::sigmasAreKept);
        Sentence.holds("Promise 1", "Valid symbols are then 0..sigma-1.", BoundaryTextTest::symbolsBeginAtZero);
    }

    private static void sigmaBecomes(int due, int... given) {
        List<Integer> symbols = new ArrayList<>();
        for (int s = 0; s < due; s++) {
            symbols.add(s);
        }
        for (int sigma : given) {
            InducedSorter x = new InducedSorter(8, sigma);
            Check.same("symbols for T, sigma " + sigma, State.symbolsOfText(x), symbols);
            Check.same("symbols for P, sigma " + sigma, State.symbolsOfPattern(x), symbols);
        }
    }

    private static void sigmasAreKept() {
        for (int sigma = 1; sigma <= 64; sigma++) {
            sigmaBecomes(sigma, sigma);
        }
    }

    private static void symbolsBeginAtZero() {
        for (int[] givenAndMost : new int[][] {{MIN, 0}, {0, 0}, {1, 0}, {2, 1}, {64, 63}, {65, 63}, {MAX, 63}}) {
            String where = ", sigma " + givenAndMost[0];
            int most = givenAndMost[1];
            InducedSorter x = new InducedSorter(8, givenAndMost[0]);
            Check.same("append(-1)" + where, x.append(-1), false);
            Check.same("append(0)" + where, x.append(0), true);
            Check.same("append(" + most + ")" + where, x.append(most), true);
            Check.same("append(" + (most + 1) + ")" + where, x.append(most + 1), false);
            Check.same("patAppend(-1)" + where, x.patAppend(-1), false);
            Check.same("patAppend(0)" + where, x.patAppend(0), true);
            Check.same("patAppend(" + most + ")" + where, x.patAppend(most), true);
            Check.same("patAppend(" + (most + 1) + ")" + where, x.patAppend(most + 1), false);
        }
    }

    private static void promise1NewObject() {
        Sentence.holds("Promise 1", "makes an object with empty T (n = 0), empty P (m = 0) and B false.",
            BoundaryTextTest::newObjectIsEmpty);
        Sentence.holds("Promise 1", "The construction is never refused.",
            BoundaryTextTest::constructionIsNeverRefused);
        Sentence.holds("Promise 1", "Capacity and sigma never change afterwards.",
            BoundaryTextTest::capacityAndSigmaStay);
        Sentence.holds("Promise 1", "Right after construction: `length()` answers 0, `isBuilt()` answers false",
            BoundaryTextTest::newObjectHasNoLengthAndNoIndex);
        Sentence.holds("Promise 1", "`symbolAt`, `suffixAt`, `rankOf`, `lcpAt`, `count`, `rangeStart`, `locate`,"
            + " `distinctSubstrings` and `longestRepeat` all answer `NONE` for every argument.",
            BoundaryTextTest::newObjectAnswersNone);
    }

    private static List<InducedSorter> newObjects() {
        List<InducedSorter> all = new ArrayList<>();
        for (int capacity : new int[] {MIN, -1, 0, 7, 8, 9, 127, 128, 129, MAX}) {
            for (int sigma : new int[] {MIN, -1, 0, 1, 2, 63, 64, 65, MAX}) {
                all.add(new InducedSorter(capacity, sigma));
            }
        }
        return all;
    }

    private static void newObjectIsEmpty() {
        for (InducedSorter x : newObjects()) {
            Check.same("length()", x.length(), 0);
            Check.same("isBuilt()", x.isBuilt(), false);
            x.append(0);
            x.append(0);
            x.build();
            // Only the empty pattern occurs at both positions of two equal symbols.
            Check.same("count() with the pattern of a new object", x.count(), 2);
            Check.same("rangeStart() with the pattern of a new object", x.rangeStart(), 0);
            Check.same("locate(1) with the pattern of a new object", x.locate(1), 1);
        }
        Check.same("room for P in a new object", State.roomInPattern(new InducedSorter(8, 2)), 8);
    }

    private static void constructionIsNeverRefused() {
        int[] any = {MIN, MIN + 1, -129, -1, 0, 1, 7, 8, 63, 64, 65, 127, 128, 129, 1000000, MAX - 1, MAX};
        for (int capacity : any) {
            for (int sigma : any) {
                InducedSorter x = new InducedSorter(capacity, sigma);
                String where = " in new InducedSorter(" + capacity + ", " + sigma + ")";
                Check.same("append(0)" + where, x.append(0), true);
                Check.same("patAppend(0)" + where, x.patAppend(0), true);
                Check.same("build()" + where, x.build(), true);
                Check.same("count()" + where, x.count(), 1);
            }
        }
    }

    private static void capacityAndSigmaStay() {
        for (State state : State.all()) {
            boundsStay("clear()", state, InducedSorter::clear);
            boundsStay("append(0)", state, x -> x.append(0));
            boundsStay("append(64)", state, x -> x.append(64));
            boundsStay("append(-1)", state, x -> x.append(-1));
            boundsStay("build()", state, InducedSorter::build);
            boundsStay("patClear()", state, InducedSorter::patClear);
            boundsStay("patAppend(0)", state, x -> x.patAppend(0));
            boundsStay("patAppend(64)", state, x -> x.patAppend(64));
            boundsStay("patAppend(-1)", state, x -> x.patAppend(-1));
            boundsStay("looking", state, Answers::view);
        }
    }

    private static void boundsStay(String call, State state, Consumer<InducedSorter> calls) {
        InducedSorter x = state.make();
        calls.accept(x);
        boundsAre("after " + call + " at " + state, x, state.capacity(), state.sigma());
    }

    private static void boundsAre(String where, InducedSorter x, int capacity, int sigma) {
        Check.same("symbols for T " + where, State.symbolsOfText(x).size(), sigma);
        Check.same("symbols for P " + where, State.symbolsOfPattern(x).size(), sigma);
        Check.same("room for T " + where, State.roomInText(x), capacity);
        Check.same("room for P " + where, State.roomInPattern(x), capacity);
    }

    private static void newObjectHasNoLengthAndNoIndex() {
        for (InducedSorter x : newObjects()) {
            Check.same("length()", x.length(), 0);
            Check.same("isBuilt()", x.isBuilt(), false);
        }
    }

    private static void newObjectAnswersNone() {
        for (InducedSorter x : newObjects()) {
            Answers.are("symbolAt", x::symbolAt);
            Answers.indexIsSilent("new", x);
        }
    }

    private static void promise2() {
        Sentence.holds("Promise 2", "`clear()` makes T empty (n becomes 0) and sets B false.",
            BoundaryTextTest::clearEmptiesTheText);
        Sentence.holds("Promise 2", "P is kept unchanged.", BoundaryTextTest::clearKeepsThePattern);
        Sentence.holds("Promise 2", "Capacity and sigma are unchanged.", BoundaryTextTest::clearKeepsTheBounds);
        Sentence.holds("Promise 2", "It is never refused, and it behaves the same whether T was already empty or not"
            + " and whether B was true or false.", BoundaryTextTest::clearIsTheSameFromEverywhere);
        Sentence.holds("Promise 2", "Afterwards `length()` answers 0, `symbolAt(i)` answers `NONE` for every i,"
            + " `isBuilt()` answers false", BoundaryTextTest::clearedObjectShowsNoText);
        Sentence.holds("Promise 2", "`suffixAt`, `rankOf`, `lcpAt`, `count`, `rangeStart`, `locate`,"
            + " `distinctSubstrings` and `longestRepeat` answer `NONE` until a later successful `build()`.",
            BoundaryTextTest::clearedObjectAnswersNoneUntilBuilt);
    }

    private static void clearEmptiesTheText() {
        for (State state : State.all()) {
            InducedSorter x = state.make();
            x.clear();
            Check.same("length() after clear() of " + state, x.length(), 0);
            Check.same("isBuilt() after clear() of " + state, x.isBuilt(), false);
            Check.same("build() after clear() of " + state, x.build(), false);
            Check.same("room after clear() of " + state, State.roomInText(x), state.capacity());
        }
    }

    private static void clearKeepsThePattern() {
        for (State state : State.all()) {
            state.becomes(state.withText("").withBuilt(false), "clear()", InducedSorter::clear);
        }
        InducedSorter x = Letters.searching("abab", "ab");
        x.clear();
        Letters.feed(x, "bab");
        x.build();
        Answers.are("locate of ab in the next text", x::locate, 1);
    }

    private static void clearKeepsTheBounds() {
        for (int[] given : new int[][] {{8, 1}, {8, 64}, {9, 2}, {127, 63}, {128, 1}, {128, 64}}) {
            InducedSorter x = new InducedSorter(given[0], given[1]);
            x.append(0);
            x.build();
            x.clear();
            boundsAre("after clear()", x, given[0], given[1]);
            x.clear();
            x.clear();
            x.patClear();
            boundsAre("after clear() twice", x, given[0], given[1]);
        }
    }

    private static void clearIsTheSameFromEverywhere() {
        State due = new State(8, 2, "", "ab", false);
        for (String text : new String[] {"", "a", "abababab"}) {
            State before = due.withText(text);
            before.becomes(due, "clear()", InducedSorter::clear);
            before.becomes(due, "clear() twice", BoundaryTextTest::clearTwice);
            if (!text.isEmpty()) {
                before.withBuilt(true).becomes(due, "clear()", InducedSorter::clear);
                before.withBuilt(true).becomes(due, "clear() twice", BoundaryTextTest::clearTwice);
            }
        }
        due.isWhere("other texts, then clear()", () -> {
            InducedSorter x = due.makeAfterOthers();
            x.clear();
            return x;
        });
    }

    private static void clearTwice(InducedSorter x) {
        x.clear();
        x.clear();
    }

    private static void clearedObjectShowsNoText() {
        for (State state : State.all()) {
            InducedSorter x = state.make();
            x.clear();
            Answers.textIsEmpty("after clear() of " + state, x);
            Check.same("isBuilt() after clear() of " + state, x.isBuilt(), false);
        }
    }

    private static void clearedObjectAnswersNoneUntilBuilt() {
        for (State state : State.all()) {
            InducedSorter x = state.make();
            x.clear();
            Answers.indexIsSilent("after clear() of " + state, x);
            x.build();
            Answers.indexIsSilent("after the refused build() on " + state, x);
            x.append(-1);
            x.patAppend(0);
            Answers.indexIsSilent("after other calls on " + state, x);
            x.append(0);
            Answers.indexIsSilent("after the next append(0) on " + state, x);
            x.build();
            Check.same("suffixAt(0) after the next build() on " + state, x.suffixAt(0), 0);
            Check.same("distinctSubstrings() after the next build() on " + state, x.distinctSubstrings(), 1);
        }
    }

    private static void promise3() {
        Sentence.holds("Promise 3", "The conditions are considered in this order:",
            BoundaryTextTest::wrongSymbolForFullTextIsRefused);
        Sentence.holds("Promise 3", "s < 0 or s >= sigma: refused, answers false.",
            BoundaryTextTest::wrongSymbolIsRefused);
        Sentence.holds("Promise 3", "n == capacity (T is full): refused, answers false.",
            BoundaryTextTest::fullTextRefuses);
        Sentence.holds("Promise 3", "Otherwise T[n] = s, n grows by one, B becomes false, and the answer is true.",
            BoundaryTextTest::appendUpToTheLastPlace);
        Sentence.holds("Promise 3", "A refused append changes nothing at all: T, n, P and B stay as they were",
            BoundaryTextTest::refusedAppendChangesNothing);
        Sentence.holds("Promise 3", "(in particular a refused append leaves B true if it was true)",
            BoundaryTextTest::refusedAppendLeavesTheIndex);
        Sentence.holds("Promise 3", "A successful append does not change P"
            + " and does not change the symbols already in T.", BoundaryTextTest::appendKeepsWhatIsThere);
    }

    private static int[] wrongSymbols(int sigma) {
        return new int[] {MIN, MIN + 1, -65536, -64, -2, -1, sigma, sigma + 1, 64, 65, 65536, MAX - 1, MAX};
    }

    private static void wrongSymbolForFullTextIsRefused() {
        for (State state : State.all()) {
            if (state.textIsFull()) {
                state.staysAfter("append of a wrong symbol to a full text", x -> {
                    for (int s : wrongSymbols(state.sigma())) {
                        Check.same("append(" + s + ") to the full " + state, x.append(s), false);
                    }
                });
            }
        }
    }

    private static void wrongSymbolIsRefused() {
        for (State state : State.all()) {
            InducedSorter x = state.make();
            for (int s : wrongSymbols(state.sigma())) {
                Check.same("append(" + s + ") to " + state, x.append(s), false);
            }
        }
        for (int sigma = 1; sigma <= 64; sigma++) {
            InducedSorter x = new InducedSorter(8, sigma);
            Check.same("append(-1), sigma " + sigma, x.append(-1), false);
            Check.same("append(sigma), sigma " + sigma, x.append(sigma), false);
            Check.same("append(sigma - 1), sigma " + sigma, x.append(sigma - 1), true);
        }
    }

    private static void fullTextRefuses() {
        for (int capacity = 8; capacity <= 128; capacity++) {
            InducedSorter x = new InducedSorter(capacity, 2);
            for (int i = 0; i < capacity; i++) {
                Check.same("append number " + i + ", capacity " + capacity, x.append(i % 2), true);
            }
            Check.same("append(0) when full, capacity " + capacity, x.append(0), false);
            x.build();
            Check.same("append(1) when full and built, capacity " + capacity, x.append(1), false);
            Check.same("length() when full, capacity " + capacity, x.length(), capacity);
        }
    }

    private static void appendUpToTheLastPlace() {
        InducedSorter x = new InducedSorter(8, 64);
        int[] symbols = {0, 63, 1, 62, 0, 0, 63, 63};
        for (int n = 0; n < 8; n++) {
            Check.same("append(" + symbols[n] + ") at n = " + n, x.append(symbols[n]), true);
            Check.same("length() after it", x.length(), n + 1);
            Check.same("symbolAt(n)", x.symbolAt(n), symbols[n]);
            Check.same("isBuilt() after it", x.isBuilt(), false);
            x.build();
        }
    }

    private static void refusedAppendChangesNothing() {
        for (State state : State.all()) {
            for (int s : wrongSymbols(state.sigma())) {
                state.staysAfter("append(" + s + ")", x -> x.append(s));
            }
            if (state.textIsFull()) {
                state.staysAfter("append(0) to a full text", x -> x.append(0));
                state.staysAfter("append(sigma - 1) to a full text", x -> x.append(state.sigma() - 1));
            }
        }
    }

    private static void refusedAppendLeavesTheIndex() {
        for (State state : State.allBuilt()) {
            InducedSorter x = state.make();
            List<Object> before = Answers.view(x);
            for (int s : wrongSymbols(state.sigma())) {
                x.append(s);
                Check.same("isBuilt() after append(" + s + ") to " + state, x.isBuilt(), true);
            }
            if (state.textIsFull()) {
                x.append(0);
                Check.same("isBuilt() after append(0) to the full " + state, x.isBuilt(), true);
            }
            Answers.unchanged("refused append to " + state, x, before);
        }
    }

    private static void appendKeepsWhatIsThere() {
        for (State state : State.all()) {
            if (!state.textIsFull()) {
                String longer = state.text() + Letters.of(state.sigma() - 1);
                state.becomes(state.withText(longer).withBuilt(false), "append", x -> x.append(state.sigma() - 1));
            }
        }
        InducedSorter x = new InducedSorter(128, 64);
        for (int n = 0; n < 128; n++) {
            x.append(n * 5 % 64);
            for (int i = 0; i <= n; i++) {
                Check.same("symbolAt(" + i + ") of " + (n + 1), x.symbolAt(i), i * 5 % 64);
            }
        }
    }

    private static void promise4() {
        Sentence.holds("Promise 4", "`length()` answers n, the current length of T, whether or not B is true.",
            BoundaryTextTest::lengthWithAndWithoutIndex);
        Sentence.holds("Promise 4", "It is always in 0..capacity.", BoundaryTextTest::lengthStaysInBounds);
        Sentence.holds("Promise 4", "It changes nothing.",
            () -> State.changesNothing("length()", InducedSorter::length));
    }

    private static void lengthWithAndWithoutIndex() {
        for (State state : State.all()) {
            Check.same("length() of " + state, state.make().length(), state.text().length());
        }
        InducedSorter x = new InducedSorter(128, 1);
        for (int n = 1; n <= 128; n++) {
            x.append(0);
            Check.same("length() before build()", x.length(), n);
            x.build();
            Check.same("length() after build()", x.length(), n);
        }
    }

    private static void lengthStaysInBounds() {
        for (int capacity : new int[] {MIN, 8, 9, 127, 128, MAX}) {
            int most = Math.max(8, Math.min(128, capacity));
            InducedSorter x = new InducedSorter(capacity, 1);
            Check.within("length() when new", x.length(), 0, most);
            x.clear();
            Check.within("length() after clear() of nothing", x.length(), 0, most);
            for (int i = 0; i < 300; i++) {
                x.append(0);
                Check.within("length() after append number " + i, x.length(), 0, most);
            }
            x.clear();
            Check.within("length() after clear()", x.length(), 0, most);
        }
    }

    private static void promise5() {
        Sentence.holds("Promise 5", "`symbolAt(i)` answers T[i] if 0 <= i < n",
            BoundaryTextTest::symbolAtFirstAndLast);
        Sentence.holds("Promise 5", "otherwise `NONE` (for every negative i and every i >= n)",
            BoundaryTextTest::symbolAtOutside);
        Sentence.holds("Promise 5", "The answer does not depend on B.", BoundaryTextTest::symbolAtWithoutIndex);
        Sentence.holds("Promise 5", "It changes nothing.",
            () -> State.changesNothing("symbolAt", x -> Answers.ask(x::symbolAt)));
    }

    private static void symbolAtFirstAndLast() {
        Check.same("symbolAt(0) of one symbol", Letters.holding("c").symbolAt(0), 2);
        InducedSorter x = new InducedSorter(128, 64);
        for (int i = 0; i < 128; i++) {
            x.append(63 - i % 64);
        }
        for (int i = 0; i < 128; i++) {
            Check.same("symbolAt(" + i + ") of 128", x.symbolAt(i), 63 - i % 64);
        }
    }

    private static void symbolAtOutside() {
        for (State state : State.all()) {
            InducedSorter x = state.makeAfterOthers();
            for (int i : Answers.wideArguments()) {
                if (i < 0 || i >= state.text().length()) {
                    Check.same("symbolAt(" + i + ") of " + state, x.symbolAt(i), NONE);
                }
            }
        }
    }

    private static void symbolAtWithoutIndex() {
        for (State state : State.allBuilt()) {
            InducedSorter with = state.make();
            InducedSorter without = state.withBuilt(false).make();
            for (int i : Answers.wideArguments()) {
                Check.same("symbolAt(" + i + ") when built, " + state, with.symbolAt(i), without.symbolAt(i));
            }
            Check.same("symbolAt(0) when not built", without.symbolAt(0), state.text().charAt(0) - 'a');
            Check.same("symbolAt(0) when built", with.symbolAt(0), state.text().charAt(0) - 'a');
        }
    }
}
