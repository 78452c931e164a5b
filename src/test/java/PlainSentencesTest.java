import java.util.ArrayList;
import java.util.List;

/** The sentences that name an answer or a change but no boundary case, a test for each. */
public final class PlainSentencesTest {
    private static final String INTRODUCTION = "What it is";
    private static final String DEFINITIONS = "Definitions used throughout";

    private static final String[] TEXTS = {
        "banana", "mississippi", "abracadabra", "cbacbacbaabc", "thequickbrownfoxjumpsoverthelazydog",
        "tobeornottobe", "aabaabaaab", "zyxzyxwzyxwv", "abc".repeat(30) + "abd", Letters.rising(40) + "ccab"};

    private static final String[] PATTERNS = {
        "a", "an", "ana", "nan", "i", "ssi", "issip", "bra", "cba", "o", "the", "ob", "tobe", "aab", "zyx", "wz",
        "cabc", "abcabcabcabd", "q", "mo", "thf", "bb", "abcabcabcabe"};

    public static void main(String[] args) {
        introduction();
        definitions();
        promises();
        Sentence.end();
    }

    private static void introduction() {
        Sentence.holds(INTRODUCTION, "InducedSorter holds a text T of small integer symbols, fed one symbol per call",
            PlainSentencesTest::eachCallFeedsASymbol);
        Sentence.holds(INTRODUCTION, "on request builds the suffix array of T together with the longest-common-prefix"
            + " (LCP) values between suffixes that are neighbours in sorted order",
            PlainSentencesTest::indexIsBuiltOnRequest);
        Sentence.holds(INTRODUCTION, "Over the built index it answers which suffix has a given rank",
            PlainSentencesTest::suffixesOfRanks);
        Sentence.holds(INTRODUCTION, "the rank of a position", PlainSentencesTest::ranksOfPositions);
        Sentence.holds(INTRODUCTION, "each LCP entry", PlainSentencesTest::lcpEntries);
        Sentence.holds(INTRODUCTION, "questions about a pattern P (also fed one symbol per call)",
            PlainSentencesTest::eachCallFeedsThePattern);
        Sentence.holds(INTRODUCTION, "how many times P occurs", PlainSentencesTest::countsOfPatterns);
        Sentence.holds(INTRODUCTION, "how many suffixes are smaller than P", PlainSentencesTest::smallerSuffixes);
    }

    private static void eachCallFeedsASymbol() {
        for (String text : TEXTS) {
            InducedSorter x = new InducedSorter(128, 64);
            for (int n = 0; n < text.length(); n++) {
                x.append(text.charAt(n) - 'a');
                textIs(x, text.substring(0, n + 1));
            }
        }
    }

    private static void textIs(InducedSorter x, String due) {
        Check.same("length()", x.length(), due.length());
        for (int i = 0; i < due.length(); i++) {
            Check.same("symbolAt(" + i + ") of " + Letters.brief(due), x.symbolAt(i), due.charAt(i) - 'a');
        }
    }

    private static void indexIsBuiltOnRequest() {
        for (String text : TEXTS) {
            InducedSorter x = Letters.holding(text);
            Answers.nothingIsBuilt("before the request, " + Letters.brief(text), x);
            Check.same("build() of " + Letters.brief(text), x.build(), true);
            indexIs(x, text);
        }
    }

    private static void indexIs(InducedSorter x, String text) {
        Answers.are("suffixAt of " + Letters.brief(text), x::suffixAt, sortedStarts(text));
        Answers.are("rankOf of " + Letters.brief(text), x::rankOf, ranks(text));
        Answers.are("lcpAt of " + Letters.brief(text), x::lcpAt, lcps(text));
    }

    private static int[] sortedStarts(String text) {
        List<Integer> starts = new ArrayList<>();
        for (int i = 0; i < text.length(); i++) {
            starts.add(i);
        }
        starts.sort((i, j) -> text.substring(i).compareTo(text.substring(j)));
        return starts.stream().mapToInt(Integer::intValue).toArray();
    }

    private static int[] ranks(String text) {
        int[] starts = sortedStarts(text);
        int[] ranks = new int[starts.length];
        for (int r = 0; r < starts.length; r++) {
            ranks[starts[r]] = r;
        }
        return ranks;
    }

    private static int[] lcps(String text) {
        int[] starts = sortedStarts(text);
        int[] lcps = new int[starts.length];
        for (int r = 1; r < starts.length; r++) {
            lcps[r] = shared(text.substring(starts[r - 1]), text.substring(starts[r]));
        }
        return lcps;
    }

    private static int shared(String one, String other) {
        int length = Math.min(one.length(), other.length());
        while (!one.startsWith(other.substring(0, length))) {
            length--;
        }
        return length;
    }

    private static void suffixesOfRanks() {
        for (String text : TEXTS) {
            Answers.are("suffixAt of " + Letters.brief(text), Letters.built(text)::suffixAt, sortedStarts(text));
        }
    }

    private static void ranksOfPositions() {
        for (String text : TEXTS) {
            Answers.are("rankOf of " + Letters.brief(text), Letters.built(text)::rankOf, ranks(text));
        }
    }

    private static void lcpEntries() {
        for (String text : TEXTS) {
            Answers.are("lcpAt of " + Letters.brief(text), Letters.built(text)::lcpAt, lcps(text));
        }
    }

    private static void eachCallFeedsThePattern() {
        for (String text : TEXTS) {
            for (String pattern : PATTERNS) {
                InducedSorter x = Letters.built(text);
                for (int m = 0; m < pattern.length(); m++) {
                    x.patAppend(pattern.charAt(m) - 'a');
                    patternAnswersAre(x, text, pattern.substring(0, m + 1));
                }
            }
        }
    }

    private static void patternAnswersAre(InducedSorter x, String text, String pattern) {
        String where = " of " + Letters.brief(pattern) + " in " + Letters.brief(text);
        int[] places = places(text, pattern);
        Check.same("count()" + where, x.count(), places.length);
        Check.same("rangeStart()" + where, x.rangeStart(), smaller(text, pattern));
        Answers.are("locate" + where, x::locate, places);
    }

    private static int[] places(String text, String pattern) {
        List<Integer> places = new ArrayList<>();
        for (int i = 0; i < text.length(); i++) {
            if (text.startsWith(pattern, i)) {
                places.add(i);
            }
        }
        return places.stream().mapToInt(Integer::intValue).toArray();
    }

    private static int smaller(String text, String pattern) {
        int smaller = 0;
        for (int i = 0; i < text.length(); i++) {
            smaller += text.substring(i).compareTo(pattern) < 0 ? 1 : 0;
        }
        return smaller;
    }

    private static void countsOfPatterns() {
        for (String text : TEXTS) {
            for (String pattern : PATTERNS) {
                Check.same("count() of " + pattern + " in " + Letters.brief(text),
                    Letters.searching(text, pattern).count(), places(text, pattern).length);
            }
        }
    }

    private static void smallerSuffixes() {
        for (String text : TEXTS) {
            for (String pattern : PATTERNS) {
                Check.same("rangeStart() of " + pattern + " in " + Letters.brief(text),
                    Letters.searching(text, pattern).rangeStart(), smaller(text, pattern));
            }
        }
    }

    private static void definitions() {
        Sentence.holds(DEFINITIONS, "a sequence T[0..n-1] of symbols", PlainSentencesTest::textKeepsItsOrder);
        Sentence.holds(DEFINITIONS, "a sequence P[0..m-1] of symbols", PlainSentencesTest::patternKeepsItsOrder);
        Sentence.holds(DEFINITIONS, "sequences X and Y are compared lexicographically.",
            PlainSentencesTest::suffixesAndPatternsCompareLikeWords);
    }

    private static void textKeepsItsOrder() {
        for (String text : TEXTS) {
            textIs(Letters.holding(text), text);
            textIs(Letters.holding(Letters.reversed(text)), Letters.reversed(text));
            textIs(Letters.built(text), text);
        }
    }

    private static void patternKeepsItsOrder() {
        for (String pattern : TEXTS) {
            Answers.are("locate of a text in itself", Letters.searching(pattern, pattern)::locate, 0);
            String backwards = Letters.reversed(pattern);
            Answers.are("locate of the reversed pattern", Letters.searching(pattern, backwards)::locate);
            Answers.are("locate of the reversed pattern in the reversed text",
                Letters.searching(backwards, backwards)::locate, 0);
        }
    }

    private static void suffixesAndPatternsCompareLikeWords() {
        for (String text : TEXTS) {
            Answers.are("suffixAt of " + Letters.brief(text), Letters.built(text)::suffixAt, sortedStarts(text));
            for (String other : TEXTS) {
                Check.same("rangeStart() of " + Letters.brief(other) + " in " + Letters.brief(text),
                    Letters.searching(text, other).rangeStart(), smaller(text, other));
            }
        }
    }

    private static void promises() {
        Sentence.holds("Promise 1", "`sigma` is the number of symbols.", PlainSentencesTest::sigmaCountsSymbols);
        Sentence.holds("Promise 3", "`append(s)` appends symbol s at the end of T.",
            PlainSentencesTest::appendGoesToTheEnd);
        Sentence.holds("Promise 6", "`build()` builds SA and the LCP values of the current T.",
            PlainSentencesTest::buildIsOfTheCurrentText);
        Sentence.holds("Promise 6", "Whenever B is true (with n = `length()`), the following all hold:",
            PlainSentencesTest::indexHoldsWheneverBuilt);
        Sentence.holds("Promise 6", "`symbolAt(suffixAt(r-1)+k) == symbolAt(suffixAt(r)+k)` for all k < L",
            PlainSentencesTest::neighboursShareTheirLcp);
        Sentence.holds("Promise 12", "`patAppend(s)` appends symbol s at the end of P.",
            PlainSentencesTest::patAppendGoesToTheEnd);
    }

    private static void sigmaCountsSymbols() {
        for (int sigma = 1; sigma <= 64; sigma++) {
            InducedSorter x = new InducedSorter(64, sigma);
            Check.same("symbols for T, sigma " + sigma, State.symbolsOfText(x).size(), sigma);
            Check.same("symbols for P, sigma " + sigma, State.symbolsOfPattern(x).size(), sigma);
        }
    }

    private static void appendGoesToTheEnd() {
        for (int s = 0; s < 64; s++) {
            InducedSorter x = Letters.built("banana");
            Check.same("append(" + s + ")", x.append(s), true);
            textIs(x, "banana" + Letters.of(s));
            x.build();
            Check.same("append(" + s + ") again", x.append(s), true);
            textIs(x, "banana" + Letters.of(s, s));
        }
    }

    private static void buildIsOfTheCurrentText() {
        InducedSorter x = new InducedSorter(128, 64);
        for (String text : TEXTS) {
            x.clear();
            Letters.feed(x, text);
            Check.same("build() of " + Letters.brief(text), x.build(), true);
            indexIs(x, text);
            Letters.feed(x, "cab");
            Check.same("build() of the longer " + Letters.brief(text), x.build(), true);
            indexIs(x, text + "cab");
        }
    }

    private static void indexHoldsWheneverBuilt() {
        for (String text : TEXTS) {
            InducedSorter x = Letters.built(text);
            for (String pattern : PATTERNS) {
                Letters.search(x, pattern);
                x.append(-1);
                indexIs(x, text);
                patternAnswersAre(x, text, pattern);
            }
            x.build();
            indexIs(x, text);
        }
    }

    private static void neighboursShareTheirLcp() {
        for (String text : TEXTS) {
            InducedSorter x = Letters.built(text);
            for (int r = 1; r < text.length(); r++) {
                sharedIsTheGreatest(x, r, " at rank " + r + " of " + Letters.brief(text));
            }
        }
    }

    private static void sharedIsTheGreatest(InducedSorter x, int r, String where) {
        int one = x.suffixAt(r - 1);
        int other = x.suffixAt(r);
        int shorter = x.length() - Math.max(one, other);
        int most = x.lcpAt(r);
        Check.within("lcpAt" + where, most, 0, shorter);
        for (int k = 0; k < Math.min(most, shorter); k++) {
            Check.same("symbol " + k + where, x.symbolAt(one + k), x.symbolAt(other + k));
        }
        boolean more = most < shorter && x.symbolAt(one + most) == x.symbolAt(other + most);
        Check.same("one symbol more is shared" + where, more, false);
    }

    private static void patAppendGoesToTheEnd() {
        for (int s = 0; s < 64; s++) {
            String text = "cab" + Letters.of(s, s) + "xcab" + Letters.of(s) + "x";
            InducedSorter x = Letters.searching(text, "cab");
            patternAnswersAre(x, text, "cab");
            Check.same("patAppend(" + s + ")", x.patAppend(s), true);
            patternAnswersAre(x, text, "cab" + Letters.of(s));
            Check.same("patAppend(" + s + ") again", x.patAppend(s), true);
            patternAnswersAre(x, text, "cab" + Letters.of(s, s));
        }
    }
}
