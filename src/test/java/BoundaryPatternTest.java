/** The sentences of promises 11 to 15 (the pattern) that name a boundary case, a test for each. */
public final class BoundaryPatternTest {
    private static final int NONE = InducedSorter.NONE;
    private static final int MIN = Integer.MIN_VALUE;
    private static final int MAX = Integer.MAX_VALUE;
    private static final String FULL = "a".repeat(128);

    public static void main(String[] args) {
        promise11();
        promise12();
        promise13();
        promise14();
        promise15();
        Sentence.end();
    }

    private static void promise11() {
        Sentence.holds("Promise 11", "`patClear()` makes P empty (m becomes 0).",
            BoundaryPatternTest::patClearEmptiesThePattern);
        Sentence.holds("Promise 11", "It is never refused.", BoundaryPatternTest::patClearIsNeverRefused);
        Sentence.holds("Promise 11", "It does not change B or T.", BoundaryPatternTest::patClearKeepsTheRest);
        Sentence.holds("Promise 11", "Afterwards the pattern answers describe the empty pattern: when B is true,"
            + " `count()` answers n and `rangeStart()` answers 0.", BoundaryPatternTest::patClearAndTheAnswers);
    }

    private static void patClearEmptiesThePattern() {
        for (State state : State.all()) {
            InducedSorter x = state.make();
            x.patClear();
            Check.same("room for P after patClear() of " + state, State.roomInPattern(x), state.capacity());
        }
        InducedSorter x = Letters.searching("ab", "b");
        x.patClear();
        x.patAppend(0);
        Answers.are("locate of the next pattern", x::locate, 0);
    }

    private static void patClearIsNeverRefused() {
        for (State state : State.all()) {
            State due = state.withPattern("");
            state.becomes(due, "patClear()", InducedSorter::patClear);
            state.becomes(due, "patClear() twice", x -> {
                x.patClear();
                x.patClear();
            });
        }
    }

    private static void patClearKeepsTheRest() {
        for (State state : State.all()) {
            InducedSorter x = state.make();
            x.patClear();
            Check.same("isBuilt() after patClear() of " + state, x.isBuilt(), state.built());
            textIs("after patClear() of " + state, x, state.text());
        }
    }

    private static void textIs(String where, InducedSorter x, String text) {
        Check.same("length() " + where, x.length(), text.length());
        for (int i = 0; i < text.length(); i++) {
            Check.same("symbolAt(" + i + ") " + where, x.symbolAt(i), text.charAt(i) - 'a');
        }
    }

    private static void patClearAndTheAnswers() {
        for (State state : State.allBuilt()) {
            InducedSorter x = state.make();
            x.patClear();
            Check.same("count() after patClear() of " + state, x.count(), state.text().length());
            Check.same("rangeStart() after patClear() of " + state, x.rangeStart(), 0);
            Check.same("locate(0) after patClear() of " + state, x.locate(0), 0);
        }
        InducedSorter notBuilt = new State(8, 2, "ab", "ab", false).make();
        notBuilt.patClear();
        Check.same("count() after patClear() when not built", notBuilt.count(), NONE);
        Check.same("rangeStart() after patClear() when not built", notBuilt.rangeStart(), NONE);
    }

    private static void promise12() {
        Sentence.holds("Promise 12", "The conditions are considered in this order:",
            BoundaryPatternTest::wrongSymbolForFullPatternIsRefused);
        Sentence.holds("Promise 12", "s < 0 or s >= sigma: refused, answers false.",
            BoundaryPatternTest::wrongSymbolIsRefused);
        Sentence.holds("Promise 12", "m == capacity (P is full): refused, answers false.",
            BoundaryPatternTest::fullPatternRefuses);
        Sentence.holds("Promise 12", "Otherwise P[m] = s, m grows by one, and the answer is true.",
            BoundaryPatternTest::patAppendUpToTheLastPlace);
        Sentence.holds("Promise 12", "It does not change B or T, whether it succeeds or is refused.",
            BoundaryPatternTest::patAppendKeepsTheRest);
        Sentence.holds("Promise 12", "A refused call changes nothing at all.",
            BoundaryPatternTest::refusedPatAppendChangesNothing);
        Sentence.holds("Promise 12", "When B is true, the pattern answers (`count`, `rangeStart`, `locate`) always"
            + " describe the current P, including right after a successful `patAppend` or `patClear`,"
            + " without any new `build()`.", BoundaryPatternTest::answersFollowThePattern);
    }

    private static int[] wrongSymbols(int sigma) {
        return new int[] {MIN, MIN + 1, -65536, -64, -2, -1, sigma, sigma + 1, 64, 65, 65536, MAX - 1, MAX};
    }

    private static void wrongSymbolForFullPatternIsRefused() {
        for (State state : State.all()) {
            if (state.patternIsFull()) {
                state.staysAfter("patAppend of a wrong symbol to a full pattern", x -> {
                    for (int s : wrongSymbols(state.sigma())) {
                        Check.same("patAppend(" + s + ") to the full " + state, x.patAppend(s), false);
                    }
                });
            }
        }
    }

    private static void wrongSymbolIsRefused() {
        for (State state : State.all()) {
            InducedSorter x = state.make();
            for (int s : wrongSymbols(state.sigma())) {
                Check.same("patAppend(" + s + ") to " + state, x.patAppend(s), false);
            }
        }
        for (int sigma = 1; sigma <= 64; sigma++) {
            InducedSorter x = new InducedSorter(8, sigma);
            Check.same("patAppend(-1), sigma " + sigma, x.patAppend(-1), false);
            Check.same("patAppend(sigma), sigma " + sigma, x.patAppend(sigma), false);
            Check.same("patAppend(sigma - 1), sigma " + sigma, x.patAppend(sigma - 1), true);
        }
    }

    private static void fullPatternRefuses() {
        for (int capacity = 8; capacity <= 128; capacity++) {
            InducedSorter x = new InducedSorter(capacity, 2);
            for (int i = 0; i < capacity; i++) {
                Check.same("patAppend number " + i + ", capacity " + capacity, x.patAppend(i % 2), true);
            }
            Check.same("patAppend(0) when full, capacity " + capacity, x.patAppend(0), false);
            x.append(0);
            x.build();
            Check.same("patAppend(1) when full and built, capacity " + capacity, x.patAppend(1), false);
        }
    }

    private static void patAppendUpToTheLastPlace() {
        int[] symbols = {0, 63, 1, 62, 0, 0, 63, 63};
        InducedSorter x = new State(8, 64, Letters.of(symbols), "", true).make();
        for (int m = 0; m < 8; m++) {
            Check.same("patAppend(" + symbols[m] + ") at m = " + m, x.patAppend(symbols[m]), true);
            Check.same("locate(0) of the text's first " + (m + 1), x.locate(0), 0);
        }
        Check.same("count() of the whole text", x.count(), 1);
        Check.same("room left in P", State.roomInPattern(x), 0);
        for (State state : State.all()) {
            if (!state.patternIsFull()) {
                int s = state.sigma() - 1;
                state.becomes(state.withPattern(state.pattern() + Letters.of(s)), "patAppend",
                    y -> Check.same("patAppend(" + s + ") to " + state, y.patAppend(s), true));
            }
        }
    }

    private static void patAppendKeepsTheRest() {
        for (State state : State.all()) {
            InducedSorter x = state.make();
            for (int s : wrongSymbols(state.sigma())) {
                x.patAppend(s);
            }
            Check.same("isBuilt() after wrong patAppends to " + state, x.isBuilt(), state.built());
            textIs("after wrong patAppends to " + state, x, state.text());
            x.patAppend(0);
            Check.same("isBuilt() after patAppend(0) to " + state, x.isBuilt(), state.built());
            textIs("after patAppend(0) to " + state, x, state.text());
            State.roomInPattern(x);
            Check.same("isBuilt() after patAppends to the full P, " + state, x.isBuilt(), state.built());
            textIs("after patAppends to the full P, " + state, x, state.text());
        }
    }

    private static void refusedPatAppendChangesNothing() {
        for (State state : State.all()) {
            for (int s : wrongSymbols(state.sigma())) {
                state.staysAfter("patAppend(" + s + ")", x -> x.patAppend(s));
            }
            if (state.patternIsFull()) {
                state.staysAfter("patAppend(0) to a full pattern", x -> x.patAppend(0));
                state.staysAfter("patAppend(sigma - 1) to a full pattern", x -> x.patAppend(state.sigma() - 1));
            }
        }
    }

    private static void answersFollowThePattern() {
        InducedSorter x = Letters.built("banana");
        patternAnswers("the empty pattern", x, 0, 0, 1, 2, 3, 4, 5);
        x.patAppend(0);
        patternAnswers("a", x, 0, 1, 3, 5);
        x.patAppend(13);
        patternAnswers("an", x, 1, 1, 3);
        x.patAppend(64);
        patternAnswers("an after a refused patAppend", x, 1, 1, 3);
        x.patAppend(1);
        patternAnswers("anb", x, 3);
        x.patClear();
        patternAnswers("the empty pattern again", x, 0, 0, 1, 2, 3, 4, 5);
        x.patAppend(13);
        patternAnswers("n", x, 4, 2, 4);
    }

    private static void patternAnswers(String pattern, InducedSorter x, int rangeStart, int... places) {
        Check.same("count() of " + pattern, x.count(), places.length);
        Check.same("rangeStart() of " + pattern, x.rangeStart(), rangeStart);
        Answers.are("locate of " + pattern, x::locate, places);
    }

    private static void promise13() {
        Sentence.holds("Promise 13", "if B is false it answers `NONE`.", BoundaryPatternTest::countWithoutIndex);
        Sentence.holds("Promise 13", "Otherwise it answers the number of occurrences of P in T.",
            BoundaryPatternTest::countOfOccurrences);
        Sentence.holds("Promise 13", "This is n when m == 0, and 0 when m > n.", BoundaryPatternTest::countAtTheEnds);
        Sentence.holds("Promise 13", "The answer is always in 0..n when B is true.",
            BoundaryPatternTest::countStaysInBounds);
        Sentence.holds("Promise 13", "It changes nothing.",
            () -> State.changesNothing("count()", InducedSorter::count));
    }

    private static void countWithoutIndex() {
        for (State state : State.all()) {
            if (!state.built()) {
                Check.same("count() of " + state, state.make().count(), NONE);
                Check.same("count() after other texts, " + state, state.makeAfterOthers().count(), NONE);
            }
        }
        InducedSorter x = Letters.searching("banana", "a");
        x.append(0);
        Check.same("count() after append", x.count(), NONE);
        x.clear();
        Check.same("count() after clear()", x.count(), NONE);
    }

    private static void countOfOccurrences() {
        countIs("banana", "q", 0);
        countIs("banana", "b", 1);
        countIs("banana", "a", 3);
        countIs("banana", "ana", 2);
        countIs("banana", "na", 2);
        countIs("banana", "nan", 1);
        countIs("banana", "nab", 0);
        countIs("banana", "banana", 1);
        countIs("banana", "bananb", 0);
        countIs(FULL, "a", 128);
        countIs(FULL, "a".repeat(127), 2);
        countIs(FULL, FULL, 1);
    }

    private static void countIs(String text, String pattern, int due) {
        Check.same("count() of " + Letters.brief(pattern) + " in " + Letters.brief(text),
            Letters.searching(text, pattern).count(), due);
    }

    private static void countAtTheEnds() {
        for (int n : new int[] {1, 2, 8, 127, 128}) {
            countIs("a".repeat(n), "", n);
        }
        for (int n : new int[] {1, 2, 8, 126, 127}) {
            countIs("a".repeat(n), "a".repeat(n), 1);
            countIs("a".repeat(n), "a".repeat(n + 1), 0);
            countIs("a".repeat(n), FULL, 0);
        }
    }

    private static void countStaysInBounds() {
        for (State state : State.allBuilt()) {
            InducedSorter x = state.make();
            int n = state.text().length();
            Check.within("count() at " + state, x.count(), 0, n);
            for (int m = state.pattern().length(); m < state.capacity(); m++) {
                x.patAppend(0);
                Check.within("count() of a longer pattern at " + state, x.count(), 0, n);
            }
            x.patClear();
            Check.within("count() of the empty pattern at " + state, x.count(), 0, n);
        }
    }

    private static void promise14() {
        Sentence.holds("Promise 14", "if B is false it answers `NONE`.",
            BoundaryPatternTest::rangeStartWithoutIndex);
        Sentence.holds("Promise 14", "Otherwise it answers the number of positions i, 0 <= i < n, whose suffix i is"
            + " smaller than P in ORDER.", BoundaryPatternTest::rangeStartOfPlainPatterns);
        Sentence.holds("Promise 14", "A suffix that has P as a prefix is not smaller",
            BoundaryPatternTest::suffixThatBeginsWithP);
        Sentence.holds("Promise 14", "a suffix that is a proper prefix of P is smaller",
            BoundaryPatternTest::suffixThatBeginsP);
        Sentence.holds("Promise 14", "With m == 0 it answers 0.", BoundaryPatternTest::rangeStartOfTheEmptyPattern);
        Sentence.holds("Promise 14", "The answer is in 0..n when B is true, and this holds also when m > n"
            + " or when P does not occur.", BoundaryPatternTest::rangeStartStaysInBounds);
        Sentence.holds("Promise 14", "The occurrences of P then hold exactly the ranks `rangeStart()` .."
            + " `rangeStart() + count() - 1`.", BoundaryPatternTest::rangeIsExact);
        Sentence.holds("Promise 14", "It changes nothing.",
            () -> State.changesNothing("rangeStart()", InducedSorter::rangeStart));
    }

    private static void rangeStartWithoutIndex() {
        for (State state : State.all()) {
            if (!state.built()) {
                Check.same("rangeStart() of " + state, state.make().rangeStart(), NONE);
                Check.same("rangeStart() after other texts, " + state, state.makeAfterOthers().rangeStart(), NONE);
            }
        }
        InducedSorter x = Letters.searching("banana", "n");
        x.append(0);
        Check.same("rangeStart() after append", x.rangeStart(), NONE);
        x.clear();
        Check.same("rangeStart() after clear()", x.rangeStart(), NONE);
    }

    private static void rangeStartOfPlainPatterns() {
        rangeStartIs("banana", "a", 0);
        rangeStartIs("banana", "b", 3);
        rangeStartIs("banana", "c", 4);
        rangeStartIs("banana", "nan", 5);
        rangeStartIs("banana", "nb", 6);
        rangeStartIs("banana", "z", 6);
        rangeStartIs("b", "a", 0);
        rangeStartIs("b", "c", 1);
        rangeStartIs(FULL, "b", 128);
        rangeStartIs("b".repeat(128), "a", 0);
    }

    private static void rangeStartIs(String text, String pattern, int due) {
        Check.same("rangeStart() of " + Letters.brief(pattern) + " in " + Letters.brief(text),
            Letters.searching(text, pattern).rangeStart(), due);
    }

    private static void suffixThatBeginsWithP() {
        rangeStartIs("a", "a", 0);
        rangeStartIs("ab", "a", 0);
        rangeStartIs("abc", "ab", 0);
        rangeStartIs("abc", "abc", 0);
        rangeStartIs("bab", "b", 1);
        rangeStartIs(FULL, "a", 0);
        rangeStartIs(FULL, FULL, 127);
    }

    private static void suffixThatBeginsP() {
        rangeStartIs("a", "aa", 1);
        rangeStartIs("ab", "abc", 1);
        rangeStartIs("ab", "aba", 1);
        rangeStartIs("aab", "ba", 3);
        rangeStartIs("b".repeat(8), "b".repeat(8) + "a", 8);
        rangeStartIs("b".repeat(127), "b".repeat(127) + "a", 127);
    }

    private static void rangeStartOfTheEmptyPattern() {
        for (int n : new int[] {1, 2, 127, 128}) {
            rangeStartIs("a".repeat(n), "", 0);
            rangeStartIs("b".repeat(n), "", 0);
        }
        rangeStartIs("banana", "", 0);
        InducedSorter x = Letters.searching("banana", "z");
        x.patClear();
        Check.same("rangeStart() after patClear()", x.rangeStart(), 0);
    }

    private static void rangeStartStaysInBounds() {
        rangeStartIs("b", "a".repeat(128), 0);
        rangeStartIs("b", "b".repeat(128), 1);
        rangeStartIs("b", "c".repeat(128), 1);
        rangeStartIs("cab", "bbbb", 2);
        rangeStartIs("cab", "d", 3);
        rangeStartIs("bcd", "a", 0);
        rangeStartIs("b".repeat(127), "c".repeat(128), 127);
        rangeStartIs("b".repeat(127), "a".repeat(128), 0);
        for (State state : State.allBuilt()) {
            InducedSorter x = state.make();
            Check.within("rangeStart() at " + state, x.rangeStart(), 0, state.text().length());
            for (int m = state.pattern().length(); m < state.capacity(); m++) {
                x.patAppend(state.sigma() - 1);
                Check.within("rangeStart() of a longer pattern at " + state, x.rangeStart(), 0, state.text().length());
            }
        }
    }

    private static void rangeIsExact() {
        String[][] textsAndPatterns = {{"a", "a"}, {"a", ""}, {"a", "b"}, {"a", "aa"}, {"banana", "a"},
            {"banana", "ana"}, {"banana", "banana"}, {"banana", "n"}, {"banana", "bananas"}, {"banana", "z"},
            {FULL, "a"}, {FULL, FULL}, {"b" + "a".repeat(127), "b"}, {"a".repeat(127) + "b", "b"}};
        for (String[] each : textsAndPatterns) {
            InducedSorter x = Letters.searching(each[0], each[1]);
            for (int i = 0; i < each[0].length(); i++) {
                int place = x.rankOf(i) - x.rangeStart();
                Check.same("position " + i + " of " + Letters.brief(each[0]) + " in the range of "
                    + Letters.brief(each[1]), place >= 0 && place < x.count(), each[0].startsWith(each[1], i));
            }
        }
    }

    private static void promise15() {
        Sentence.holds("Promise 15", "If B is false, or k < 0, or k >= `count()`: answers `NONE`.",
            BoundaryPatternTest::locateOutside);
        Sentence.holds("Promise 15", "In particular every k answers `NONE` when P has no occurrence.",
            BoundaryPatternTest::locateOfWhatDoesNotOccur);
        Sentence.holds("Promise 15", "Otherwise answers the k-th smallest occurrence position of P in T,"
            + " counting from 0.", BoundaryPatternTest::locateCountsFromZero);
        Sentence.holds("Promise 15", "So k == 0 gives the leftmost occurrence and k == `count()` - 1 gives the"
            + " rightmost one", BoundaryPatternTest::locateLeftmostAndRightmost);
        Sentence.holds("Promise 15", "the answers for k = 0, 1, ..., `count()` - 1 are strictly increasing positions",
            BoundaryPatternTest::locateIncreases);
        Sentence.holds("Promise 15", "When m == 0, `locate(k)` answers k for 0 <= k < n.",
            BoundaryPatternTest::locateOfTheEmptyPattern);
        Sentence.holds("Promise 15", "It changes nothing.",
            () -> State.changesNothing("locate", x -> Answers.ask(x::locate)));
    }

    private static void locateOutside() {
        for (State state : State.all()) {
            InducedSorter x = state.makeAfterOthers();
            for (int k : Answers.wideArguments()) {
                if (!state.built() || k < 0 || k >= x.count()) {
                    Check.same("locate(" + k + ") of " + state, x.locate(k), NONE);
                }
            }
        }
        Answers.are("locate of a in banana", Letters.searching("banana", "a")::locate, 1, 3, 5);
        Answers.are("locate of the whole text", Letters.searching("banana", "banana")::locate, 0);
    }

    private static void locateOfWhatDoesNotOccur() {
        Answers.are("locate of z in banana", Letters.searching("banana", "z")::locate);
        Answers.are("locate of nab in banana", Letters.searching("banana", "nab")::locate);
        Answers.are("locate of bananas in banana", Letters.searching("banana", "bananas")::locate);
        Answers.are("locate of aa in a", Letters.searching("a", "aa")::locate);
        Answers.are("locate of 128 in 127", Letters.searching("a".repeat(127), FULL)::locate);
        Answers.are("locate of b in 128", Letters.searching(FULL, "b")::locate);
    }

    private static void locateCountsFromZero() {
        Answers.are("locate of an in banana", Letters.searching("banana", "an")::locate, 1, 3);
        // Sorted order has the later one first here, and the earlier one first in banana's n.
        Answers.are("locate of a in aa", Letters.searching("aa", "a")::locate, 0, 1);
        Answers.are("locate of ab in abcabxab", Letters.searching("abcabxab", "ab")::locate, 0, 3, 6);
        Answers.are("locate of ab in abxabcab", Letters.searching("abxabcab", "ab")::locate, 0, 3, 6);
        Answers.are("locate of b in ab", Letters.searching("ab", "b")::locate, 1);
    }

    private static void locateLeftmostAndRightmost() {
        String[][] textsAndPatterns = {{"a", "a"}, {"banana", "a"}, {"banana", "ana"}, {"banana", "b"},
            {"abcabxab", "ab"}, {FULL, "a"}, {FULL, FULL}, {FULL, "a".repeat(64)}};
        for (String[] each : textsAndPatterns) {
            InducedSorter x = Letters.searching(each[0], each[1]);
            String where = " of " + Letters.brief(each[1]) + " in " + Letters.brief(each[0]);
            Check.same("locate(0)" + where, x.locate(0), each[0].indexOf(each[1]));
            Check.same("locate(count() - 1)" + where, x.locate(x.count() - 1), each[0].lastIndexOf(each[1]));
        }
    }

    private static void locateIncreases() {
        String[][] textsAndPatterns = {{"banana", "a"}, {"banana", ""}, {"mississippi", "i"}, {"mississippi", "s"},
            {"zazazazaza", "za"}, {FULL, "a"}, {FULL, "a".repeat(127)}, {"ab".repeat(64), "ba"}};
        for (String[] each : textsAndPatterns) {
            InducedSorter x = Letters.searching(each[0], each[1]);
            for (int k = 1; k < x.count(); k++) {
                Check.same("locate(" + k + ") of " + Letters.brief(each[1]) + " in " + Letters.brief(each[0])
                    + " is above the one before", x.locate(k) > x.locate(k - 1), true);
            }
        }
    }

    private static void locateOfTheEmptyPattern() {
        for (String text : new String[] {"a", "ba", "banana", "b" + "a".repeat(127), FULL}) {
            InducedSorter x = Letters.built(text);
            for (int k : Answers.wideArguments()) {
                int due = k >= 0 && k < text.length() ? k : NONE;
                Check.same("locate(" + k + ") in " + Letters.brief(text), x.locate(k), due);
            }
        }
    }
}
