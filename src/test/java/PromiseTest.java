import java.util.List;
import java.util.function.IntUnaryOperator;

/** One method per promise of the document: ordinary inputs, the edges it names, and wrong inputs. */
public final class PromiseTest {
    private static final int NONE = InducedSorter.NONE;
    private static final int MIN = Integer.MIN_VALUE;
    private static final int MAX = Integer.MAX_VALUE;
    private static final int[] WIDE = Answers.wideArguments();

    public static void main(String[] args) {
        promise1Construction();
        promise2Clear();
        promise3Append();
        promise4Length();
        promise5SymbolAt();
        promise6Build();
        promise7IsBuilt();
        promise8SuffixAt();
        promise9RankOf();
        promise10LcpAt();
        promise11PatClear();
        promise12PatAppend();
        promise13Count();
        promise14RangeStart();
        promise15Locate();
        promise16DistinctSubstrings();
        promise17LongestRepeat();
        promisesAreKeptByEachObjectAlone();
        Check.end();
    }

    private static void promise1Construction() {
        int[][] capacities = {{MIN, 8}, {MIN + 1, 8}, {-1, 8}, {0, 8}, {1, 8}, {7, 8}, {8, 8}, {9, 9}, {64, 64},
            {127, 127}, {128, 128}, {129, 128}, {256, 128}, {MAX - 1, 128}, {MAX, 128}};
        for (int[] c : capacities) {
            capacityIs(c[0], c[1]);
        }
        int[][] sigmas = {{MIN, 1}, {-1, 1}, {0, 1}, {1, 1}, {2, 2}, {3, 3}, {32, 32}, {63, 63}, {64, 64},
            {65, 64}, {128, 64}, {MAX - 1, 64}, {MAX, 64}};
        for (int[] s : sigmas) {
            sigmaIs(s[0], s[1]);
        }
    }

    private static void capacityIs(int given, int due) {
        String where = "capacity " + given;
        InducedSorter x = new InducedSorter(given, 4);
        Answers.textIsEmpty(where, x);
        Answers.nothingIsBuilt(where, x);
        for (int i = 0; i < due; i++) {
            Check.same(where + ": append " + i, x.append(i % 4), true);
            Check.same(where + ": patAppend " + i, x.patAppend(i % 4), true);
        }
        Check.same(where + ": append to the full text", x.append(0), false);
        Check.same(where + ": patAppend to the full pattern", x.patAppend(0), false);
        Check.same(where + ": length()", x.length(), due);
        x.build();
        x.clear();
        Check.same(where + ": length() after clear()", x.length(), 0);
        for (int i = 0; i < due; i++) {
            Check.same(where + ": append again " + i, x.append(i % 4), true);
        }
        Check.same(where + ": append to the text filled again", x.append(0), false);
    }

    private static void sigmaIs(int given, int due) {
        String where = "sigma " + given;
        InducedSorter x = new InducedSorter(128, given);
        Answers.textIsEmpty(where, x);
        Answers.nothingIsBuilt(where, x);
        for (int s = 0; s < due; s++) {
            Check.same(where + ": append(" + s + ")", x.append(s), true);
            Check.same(where + ": patAppend(" + s + ")", x.patAppend(s), true);
        }
        int[] wrong = {due, due + 1, -1, MIN, MAX};
        for (int s : wrong) {
            Check.same(where + ": append(" + s + ")", x.append(s), false);
            Check.same(where + ": patAppend(" + s + ")", x.patAppend(s), false);
        }
        // A new object's pattern is empty, so the one fed above is the whole text.
        x.build();
        Check.same(where + ": count()", x.count(), 1);
    }

    private static void promise2Clear() {
        InducedSorter x = Letters.searching("banana", "ana");
        x.clear();
        Answers.textIsEmpty("clear() when built", x);
        Answers.nothingIsBuilt("clear() when built", x);
        Check.same("build() after clear()", x.build(), false);
        x.clear();
        Answers.textIsEmpty("clear() when empty", x);
        Answers.nothingIsBuilt("clear() when empty", x);
        Letters.feed(x, "xanax");
        Answers.nothingIsBuilt("append after clear()", x);
        Check.same("build() of the next text", x.build(), true);
        Check.same("count() with the pattern kept over clear()", x.count(), 1);
        Check.same("locate(0) with the pattern kept over clear()", x.locate(0), 1);
        Check.same("append of the greatest symbol after clear()", x.append(63), true);
        Check.same("append of sigma after clear()", x.append(64), false);

        InducedSorter y = Letters.holding("abc");
        y.clear();
        Answers.textIsEmpty("clear() when not built", y);
        Answers.nothingIsBuilt("clear() when not built", y);

        InducedSorter z = new InducedSorter(8, 1);
        z.clear();
        Answers.textIsEmpty("clear() of a new object", z);
        Answers.nothingIsBuilt("clear() of a new object", z);
    }

    private static void promise3Append() {
        InducedSorter x = Letters.searching("banana", "an");
        List<Object> before = Answers.view(x);
        int[] wrong = {-1, 64, 65, 128, MIN, MAX};
        for (int s : wrong) {
            Check.same("append(" + s + ")", x.append(s), false);
            Answers.unchanged("refused append(" + s + ")", x, before);
        }
        Check.same("append(25)", x.append(25), true);
        Answers.nothingIsBuilt("append when built", x);
        Check.same("length() after append", x.length(), 7);
        String text = "bananaz";
        for (int i = 0; i < 7; i++) {
            Check.same("symbolAt(" + i + ") after append", x.symbolAt(i), text.charAt(i) - 'a');
        }
        x.build();
        Check.same("count() with the pattern kept over append", x.count(), 2);

        InducedSorter full = new InducedSorter(8, 2);
        Letters.feed(full, "abababab");
        List<Object> notBuilt = Answers.view(full);
        Check.same("append to the full text", full.append(1), false);
        Answers.unchanged("append to the full text", full, notBuilt);
        full.build();
        List<Object> whenBuilt = Answers.view(full);
        Check.same("append to the full built text", full.append(0), false);
        Check.same("append(2) to the full built text", full.append(2), false);
        Answers.unchanged("append to the full built text", full, whenBuilt);
    }

    private static void promise4Length() {
        InducedSorter x = new InducedSorter(128, 64);
        for (int n = 0; n < 128; n++) {
            Check.same("length()", x.length(), n);
            x.append(n % 64);
            x.append(-1);
            Check.same("length() before build()", x.length(), n + 1);
            x.build();
            x.patAppend(0);
            Check.same("length() after build()", x.length(), n + 1);
        }
        x.append(0);
        Check.same("length() of the full text", x.length(), 128);
    }

    private static void promise5SymbolAt() {
        InducedSorter x = new InducedSorter(128, 64);
        for (int i = 0; i < 128; i++) {
            Check.same("symbolAt(" + i + ") too early", x.symbolAt(i), NONE);
            x.append(i * 5 % 64);
            Check.same("symbolAt(" + i + ")", x.symbolAt(i), i * 5 % 64);
        }
        for (int pass = 0; pass < 2; pass++) {
            for (int a : WIDE) {
                int due = a >= 0 && a < 128 ? a * 5 % 64 : NONE;
                Check.same("symbolAt(" + a + ") built=" + x.isBuilt(), x.symbolAt(a), due);
            }
            x.build();
        }
        x.clear();
        x.append(7);
        Check.same("symbolAt(0) of the next text", x.symbolAt(0), 7);
        Check.same("symbolAt(1) of the next text", x.symbolAt(1), NONE);
    }

    private static void promise6Build() {
        InducedSorter x = new InducedSorter(8, 26);
        Letters.search(x, "a");
        Check.same("build() of the empty text", x.build(), false);
        Answers.textIsEmpty("build() of the empty text", x);
        Answers.nothingIsBuilt("build() of the empty text", x);
        Letters.feed(x, "banana");
        Check.same("build()", x.build(), true);
        List<Object> before = Answers.view(x);
        Answers.unchanged("looking twice", x, before);
        Check.same("build() when built", x.build(), true);
        Answers.unchanged("build() when built", x, before);
        Check.same("count() with the pattern kept over build()", x.count(), 3);
        Letters.feed(x, "s");
        Check.same("build() of the longer text", x.build(), true);
        String[] texts = {"bananas", "a", "aa", "ab", "ba", "mississippi", "abracadabra", "aaaaaaaa", "zyxwvu",
            "abcabcabcabc", "aabaabaaab", "zazazazaza", "cbacbacbaabc"};
        String[] patterns = {"", "a", "an", "i", "ssi", "abra", "zz", "aaaaaaaaa", "abc", "za", "m"};
        for (String text : texts) {
            for (String pattern : patterns) {
                indexHolds(text, pattern);
            }
        }
    }

    private static void indexHolds(String text, String pattern) {
        InducedSorter x = Letters.searching(text, pattern);
        String where = "T=" + text + " P=" + pattern;
        int n = text.length();
        boolean[] seen = new boolean[n];
        for (int r = 0; r < n; r++) {
            int start = x.suffixAt(r);
            Check.same(where + ": suffixAt(" + r + ") is in the text", start >= 0 && start < n, true);
            Check.same(where + ": suffixAt(" + r + ") seen before", seen[start], false);
            seen[start] = true;
            Check.same(where + ": rankOf(suffixAt(" + r + "))", x.rankOf(start), r);
            if (r > 0) {
                neighboursHold(where, x, text, r);
            }
            boolean inRange = r >= x.rangeStart() && r < x.rangeStart() + x.count();
            Check.same(where + ": rank " + r + " in the range", inRange, text.startsWith(pattern, start));
        }
        Check.same(where + ": lcpAt(0)", x.lcpAt(0), 0);
        for (int a : WIDE) {
            if (a < 0 || a >= n) {
                Check.same(where + ": suffixAt(" + a + ")", x.suffixAt(a), NONE);
            }
        }
    }

    private static void neighboursHold(String where, InducedSorter x, String text, int r) {
        String lower = text.substring(x.suffixAt(r - 1));
        String upper = text.substring(x.suffixAt(r));
        Check.same(where + ": " + lower + " before " + upper, lower.compareTo(upper) < 0, true);
        int shared = x.lcpAt(r);
        boolean shares = shared >= 0 && shared <= lower.length() && upper.startsWith(lower.substring(0, shared));
        Check.same(where + ": lcpAt(" + r + ") is shared", shares, true);
        boolean more = shared < lower.length() && upper.startsWith(lower.substring(0, shared + 1));
        Check.same(where + ": more than lcpAt(" + r + ") is shared", more, false);
    }

    private static void promise7IsBuilt() {
        InducedSorter x = new InducedSorter(8, 2);
        Check.same("isBuilt() of a new object", x.isBuilt(), false);
        x.build();
        Check.same("isBuilt() after a refused build()", x.isBuilt(), false);
        x.append(1);
        Check.same("isBuilt() after append", x.isBuilt(), false);
        x.build();
        Check.same("isBuilt() after build()", x.isBuilt(), true);
        x.append(2);
        x.append(-1);
        Check.same("isBuilt() after refused appends", x.isBuilt(), true);
        x.patAppend(1);
        x.patAppend(2);
        x.patClear();
        Check.same("isBuilt() after pattern calls", x.isBuilt(), true);
        x.append(0);
        Check.same("isBuilt() after append to the built text", x.isBuilt(), false);
        x.patAppend(1);
        x.patClear();
        Check.same("isBuilt() after pattern calls on no index", x.isBuilt(), false);
        x.build();
        x.build();
        Check.same("isBuilt() after two build()", x.isBuilt(), true);
        x.clear();
        Check.same("isBuilt() after clear()", x.isBuilt(), false);
    }

    private static void promise8SuffixAt() {
        InducedSorter x = Letters.holding("banana");
        Answers.nothingIsBuilt("before build()", x);
        x.build();
        answersAre("suffixAt", x, new int[] {5, 3, 1, 0, 4, 2});
        Letters.feed(x, "n");
        Answers.nothingIsBuilt("after append", x);
        x.build();
        answersAre("suffixAt", x, new int[] {5, 3, 1, 0, 6, 4, 2});
        answersAre("suffixAt", Letters.built("q"), new int[] {0});
        answersAre("suffixAt", Letters.built("dcba"), new int[] {3, 2, 1, 0});
        answersAre("suffixAt", Letters.built("abcd"), new int[] {0, 1, 2, 3});
        answersAre("suffixAt", Letters.built("mississippi"), new int[] {10, 7, 4, 1, 0, 9, 8, 6, 3, 5, 2});
    }

    private static void answersAre(String method, InducedSorter x, int[] due) {
        List<Object> before = Answers.view(x);
        IntUnaryOperator asked = method.equals("suffixAt") ? x::suffixAt
            : method.equals("rankOf") ? x::rankOf
            : method.equals("lcpAt") ? x::lcpAt
            : x::locate;
        Answers.are(method, asked, due);
        Answers.unchanged(method, x, before);
    }

    private static void promise9RankOf() {
        answersAre("rankOf", Letters.holding("banana"), new int[] {});
        answersAre("rankOf", Letters.built("banana"), new int[] {3, 2, 5, 1, 4, 0});
        answersAre("rankOf", Letters.built("q"), new int[] {0});
        answersAre("rankOf", Letters.built("aaaa"), new int[] {3, 2, 1, 0});
        answersAre("rankOf", Letters.built("mississippi"), new int[] {4, 3, 10, 8, 2, 9, 7, 1, 6, 5, 0});
    }

    private static void promise10LcpAt() {
        answersAre("lcpAt", Letters.holding("banana"), new int[] {});
        answersAre("lcpAt", Letters.built("banana"), new int[] {0, 1, 3, 0, 0, 2});
        answersAre("lcpAt", Letters.built("q"), new int[] {0});
        answersAre("lcpAt", Letters.built("abcd"), new int[] {0, 0, 0, 0});
        answersAre("lcpAt", Letters.built("aaaa"), new int[] {0, 1, 2, 3});
        answersAre("lcpAt", Letters.built("mississippi"), new int[] {0, 1, 1, 4, 0, 0, 1, 0, 2, 1, 3});
        InducedSorter full = new InducedSorter(128, 1);
        for (int i = 0; i < 128; i++) {
            full.append(0);
        }
        full.build();
        Check.same("greatest lcpAt", full.lcpAt(127), 127);
        // A shorter text after a longer one: what was built for the longer must not show.
        full.clear();
        full.append(0);
        full.append(0);
        full.build();
        answersAre("lcpAt", full, new int[] {0, 1});
    }

    private static void promise11PatClear() {
        InducedSorter x = Letters.searching("banana", "nan");
        Check.same("count()", x.count(), 1);
        x.patClear();
        Check.same("count() after patClear()", x.count(), 6);
        Check.same("rangeStart() after patClear()", x.rangeStart(), 0);
        Check.same("isBuilt() after patClear()", x.isBuilt(), true);
        answersAre("locate", x, new int[] {0, 1, 2, 3, 4, 5});
        List<Object> before = Answers.view(x);
        x.patClear();
        Answers.unchanged("patClear() of the empty pattern", x, before);

        InducedSorter y = Letters.holding("ab");
        Letters.search(y, "ab");
        y.patClear();
        Answers.nothingIsBuilt("patClear() before build()", y);
        Check.same("length() after patClear()", y.length(), 2);
        y.build();
        Check.same("count() of the pattern cleared before build()", y.count(), 2);

        InducedSorter z = new InducedSorter(8, 2);
        Letters.feed(z, "ab");
        z.build();
        Letters.search(z, "abababab");
        Letters.search(z, "babababa");
        Check.same("patAppend to the pattern filled again", z.patAppend(0), false);
    }

    private static void promise12PatAppend() {
        InducedSorter x = Letters.searching("banana", "an");
        List<Object> before = Answers.view(x);
        int[] wrong = {-1, 64, 65, 128, MIN, MAX};
        for (int s : wrong) {
            Check.same("patAppend(" + s + ")", x.patAppend(s), false);
            Answers.unchanged("refused patAppend(" + s + ")", x, before);
        }
        Check.same("patAppend(0)", x.patAppend(0), true);
        Check.same("isBuilt() after patAppend", x.isBuilt(), true);
        Check.same("length() after patAppend", x.length(), 6);
        answersAre("locate", x, new int[] {1, 3});
        Check.same("patAppend(13)", x.patAppend(13), true);
        answersAre("locate", x, new int[] {1});

        InducedSorter full = new InducedSorter(8, 2);
        Letters.search(full, "abababab");
        Check.same("patAppend to the full pattern, not built", full.patAppend(0), false);
        Answers.nothingIsBuilt("patAppend to the full pattern", full);
        Letters.feed(full, "abababab");
        full.build();
        List<Object> whenBuilt = Answers.view(full);
        Check.same("count() of the full pattern", full.count(), 1);
        Check.same("patAppend(0) to the full pattern", full.patAppend(0), false);
        Check.same("patAppend(2) to the full pattern", full.patAppend(2), false);
        Answers.unchanged("patAppend to the full pattern", full, whenBuilt);
    }

    private static void countIs(String text, String pattern, int due) {
        InducedSorter x = Letters.searching(text, pattern);
        List<Object> before = Answers.view(x);
        Check.same("count() of " + pattern + " in " + text, x.count(), due);
        Answers.unchanged("count()", x, before);
    }

    private static void promise13Count() {
        InducedSorter x = Letters.holding("banana");
        Letters.search(x, "a");
        Check.same("count() before build()", x.count(), NONE);
        countIs("banana", "", 6);
        countIs("banana", "a", 3);
        countIs("banana", "ana", 2);
        countIs("banana", "banana", 1);
        countIs("banana", "bananas", 0);
        countIs("banana", "nab", 0);
        countIs("banana", "q", 0);
        countIs("aaaaa", "aa", 4);
        countIs("aaaaa", "aaaaaa", 0);
        countIs("aaaaa", "aaaab", 0);
        countIs("a", "", 1);
    }

    private static void rangeStartIs(String text, String pattern, int due) {
        InducedSorter x = Letters.searching(text, pattern);
        List<Object> before = Answers.view(x);
        Check.same("rangeStart() of " + pattern + " in " + text, x.rangeStart(), due);
        Answers.unchanged("rangeStart()", x, before);
    }

    private static void promise14RangeStart() {
        InducedSorter x = Letters.holding("banana");
        Letters.search(x, "a");
        Check.same("rangeStart() before build()", x.rangeStart(), NONE);
        rangeStartIs("banana", "", 0);
        rangeStartIs("banana", "a", 0);
        rangeStartIs("banana", "an", 1);
        rangeStartIs("banana", "ana", 1);
        rangeStartIs("banana", "anb", 3);
        rangeStartIs("banana", "b", 3);
        rangeStartIs("banana", "c", 4);
        rangeStartIs("banana", "na", 4);
        rangeStartIs("banana", "nan", 5);
        rangeStartIs("banana", "z", 6);
        rangeStartIs("banana", "aaaaaaaaaaaa", 1);
        rangeStartIs("banana", "bananas", 4);
        rangeStartIs("banana", "zzzzzzzzzzzz", 6);
        rangeStartIs("bcd", "aaaaaa", 0);
        rangeStartIs("aaaa", "aaaa", 3);
        rangeStartIs("aaaa", "aaaaa", 4);
    }

    private static void promise15Locate() {
        InducedSorter x = Letters.holding("banana");
        Letters.search(x, "a");
        answersAre("locate", x, new int[] {});
        answersAre("locate", Letters.searching("banana", "a"), new int[] {1, 3, 5});
        answersAre("locate", Letters.searching("banana", "ana"), new int[] {1, 3});
        answersAre("locate", Letters.searching("banana", "na"), new int[] {2, 4});
        answersAre("locate", Letters.searching("banana", "banana"), new int[] {0});
        answersAre("locate", Letters.searching("banana", "q"), new int[] {});
        answersAre("locate", Letters.searching("banana", "bananas"), new int[] {});
        answersAre("locate", Letters.searching("banana", ""), new int[] {0, 1, 2, 3, 4, 5});
        answersAre("locate", Letters.searching("aaaa", "aa"), new int[] {0, 1, 2});
        answersAre("locate", Letters.searching("abcabxab", "ab"), new int[] {0, 3, 6});
    }

    private static void distinctIs(String text, int due) {
        InducedSorter x = Letters.built(text);
        List<Object> before = Answers.view(x);
        Check.same("distinctSubstrings() of " + text, x.distinctSubstrings(), due);
        Letters.search(x, "a");
        Check.same("distinctSubstrings() with a pattern", x.distinctSubstrings(), due);
        x.patClear();
        Answers.unchanged("distinctSubstrings()", x, before);
    }

    private static void promise16DistinctSubstrings() {
        Check.same("distinctSubstrings() before build()", Letters.holding("banana").distinctSubstrings(), NONE);
        distinctIs("banana", 15);
        distinctIs("mississippi", 53);
        distinctIs("a", 1);
        distinctIs("aaaaa", 5);
        distinctIs("abcdef", 21);
        InducedSorter same = new InducedSorter(128, 1);
        InducedSorter twice = new InducedSorter(128, 64);
        for (int i = 0; i < 128; i++) {
            same.append(0);
            twice.append(i % 64);
        }
        same.build();
        twice.build();
        Check.same("distinctSubstrings() of one symbol, 128 times", same.distinctSubstrings(), 128);
        // 8256 windows, of which the 64*65/2 inside the second half are also in the first.
        Check.same("distinctSubstrings() of 64 symbols, twice", twice.distinctSubstrings(), 8256 - 2080);
    }

    private static void repeatIs(String text, int due) {
        InducedSorter x = Letters.built(text);
        List<Object> before = Answers.view(x);
        Check.same("longestRepeat() of " + text, x.longestRepeat(), due);
        Letters.search(x, "a");
        Check.same("longestRepeat() with a pattern", x.longestRepeat(), due);
        x.patClear();
        Answers.unchanged("longestRepeat()", x, before);
    }

    private static void promise17LongestRepeat() {
        Check.same("longestRepeat() before build()", Letters.holding("banana").longestRepeat(), NONE);
        repeatIs("banana", 3);
        repeatIs("mississippi", 4);
        repeatIs("a", 0);
        repeatIs("ab", 0);
        repeatIs("abcdef", 0);
        repeatIs("aa", 1);
        repeatIs("aaaaa", 4);
        repeatIs("abcxabcyabcd", 3);
        InducedSorter x = Letters.built("zzzzzzzz");
        x.clear();
        Letters.feed(x, "abc");
        x.build();
        Check.same("longestRepeat() after a text with more repeats", x.longestRepeat(), 0);
        Check.same("distinctSubstrings() after a text with more repeats", x.distinctSubstrings(), 6);
    }

    private static void promisesAreKeptByEachObjectAlone() {
        InducedSorter x = Letters.searching("banana", "ana");
        List<Object> before = Answers.view(x);
        InducedSorter y = Letters.searching("mississippi", "issi");
        y.clear();
        y.patClear();
        Answers.unchanged("another object", x, before);
    }
}
