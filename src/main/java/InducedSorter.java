public final class InducedSorter {
    public static final int NONE = -1;
    public static final int MAX_CAPACITY = 128;
    public static final int MAX_SIGMA = 64;

    private static final int MIN_CAPACITY = 8;
    private static final int MIN_SIGMA = 1;

    private final int capacity;
    private final int sigma;

    private final int[] text = new int[MAX_CAPACITY];
    private int textLength;

    private final int[] pattern = new int[MAX_CAPACITY];
    private int patternLength;

    // These three describe the text only while built is true; otherwise they
    // hold leftovers that no answer may show.
    private final int[] startOfRank = new int[MAX_CAPACITY];
    private final int[] rankOfStart = new int[MAX_CAPACITY];
    private final int[] lcpOfRank = new int[MAX_CAPACITY];
    private boolean built;

    public InducedSorter(int capacity, int sigma) {
        this.capacity = clamp(capacity, MIN_CAPACITY, MAX_CAPACITY);
        this.sigma = clamp(sigma, MIN_SIGMA, MAX_SIGMA);
        this.textLength = 0;
        this.patternLength = 0;
        this.built = false;
    }

    public void clear() {
        textLength = 0;
        built = false;
    }

    public boolean append(int s) {
        if (!isSymbol(s)) {
            return false;
        }
        if (textLength >= capacity) {
            return false;
        }
        text[textLength] = s;
        textLength++;
        built = false;
        return true;
    }

    public int length() {
        return textLength;
    }

    public int symbolAt(int i) {
        if (!isInText(i)) {
            return NONE;
        }
        return text[i];
    }

    public boolean build() {
        if (textLength == 0) {
            return false;
        }
        sortSuffixes();
        fillRanks();
        fillLcps();
        built = true;
        return true;
    }

    public boolean isBuilt() {
        return built;
    }

    public int suffixAt(int r) {
        if (!built || !isInText(r)) {
            return NONE;
        }
        return startOfRank[r];
    }

    public int rankOf(int i) {
        if (!built || !isInText(i)) {
            return NONE;
        }
        return rankOfStart[i];
    }

    public int lcpAt(int r) {
        if (!built || !isInText(r)) {
            return NONE;
        }
        return lcpOfRank[r];
    }

    public void patClear() {
        patternLength = 0;
    }

    public boolean patAppend(int s) {
        if (!isSymbol(s)) {
            return false;
        }
        if (patternLength >= capacity) {
            return false;
        }
        pattern[patternLength] = s;
        patternLength++;
        return true;
    }

    // The pattern answers look through the text itself, not the suffix array:
    // the text is short, and so they follow every change of the pattern with
    // nothing to keep up to date.

    public int count() {
        if (!built) {
            return NONE;
        }
        int occurrences = 0;
        for (int i = 0; i < textLength; i++) {
            if (patternOccursAt(i)) {
                occurrences++;
            }
        }
        return occurrences;
    }

    public int rangeStart() {
        if (!built) {
            return NONE;
        }
        int smaller = 0;
        for (int i = 0; i < textLength; i++) {
            if (isSuffixBelowPattern(i)) {
                smaller++;
            }
        }
        return smaller;
    }

    public int locate(int k) {
        if (!built || k < 0) {
            return NONE;
        }
        int passed = 0;
        for (int i = 0; i < textLength; i++) {
            if (patternOccursAt(i)) {
                if (passed == k) {
                    return i;
                }
                passed++;
            }
        }
        return NONE;
    }

    public int distinctSubstrings() {
        if (!built) {
            return NONE;
        }
        // Every substring is a prefix of a suffix, and the prefixes that a
        // suffix shares with the one before it have been counted there.
        int distinct = 0;
        for (int r = 0; r < textLength; r++) {
            distinct += textLength - startOfRank[r] - lcpOfRank[r];
        }
        return distinct;
    }

    public int longestRepeat() {
        if (!built) {
            return NONE;
        }
        // The two suffixes that share most are neighbours in sorted order.
        int longest = 0;
        for (int r = 0; r < textLength; r++) {
            if (lcpOfRank[r] > longest) {
                longest = lcpOfRank[r];
            }
        }
        return longest;
    }

    private static int clamp(int value, int low, int high) {
        if (value < low) {
            return low;
        }
        if (value > high) {
            return high;
        }
        return value;
    }

    private boolean isSymbol(int s) {
        return s >= 0 && s < sigma;
    }

    // Ranks have the same bounds as positions, so this serves for both.
    private boolean isInText(int i) {
        return i >= 0 && i < textLength;
    }

    // Shortest suffix first: a run of one symbol, the text whose suffixes take
    // longest to compare, then comes already in order.
    private void sortSuffixes() {
        for (int placed = 0; placed < textLength; placed++) {
            int start = textLength - 1 - placed;
            insertSuffix(start, placed);
        }
    }

    private void insertSuffix(int start, int placed) {
        int slot = placed;
        while (slot > 0 && isSuffixBelow(start, startOfRank[slot - 1])) {
            startOfRank[slot] = startOfRank[slot - 1];
            slot--;
        }
        startOfRank[slot] = start;
    }

    private void fillRanks() {
        for (int r = 0; r < textLength; r++) {
            rankOfStart[startOfRank[r]] = r;
        }
    }

    private void fillLcps() {
        lcpOfRank[0] = 0;
        for (int r = 1; r < textLength; r++) {
            lcpOfRank[r] = sharedBySuffixes(startOfRank[r - 1], startOfRank[r]);
        }
    }

    private boolean isSuffixBelow(int a, int b) {
        int shared = sharedBySuffixes(a, b);
        if (b + shared >= textLength) {
            return false;
        }
        if (a + shared >= textLength) {
            return true;
        }
        return text[a + shared] < text[b + shared];
    }

    private int sharedBySuffixes(int a, int b) {
        int later = a > b ? a : b;
        int most = textLength - later;
        for (int k = 0; k < most; k++) {
            if (text[a + k] != text[b + k]) {
                return k;
            }
        }
        return most;
    }

    private boolean patternOccursAt(int i) {
        return sharedWithPattern(i) == patternLength;
    }

    private boolean isSuffixBelowPattern(int i) {
        int shared = sharedWithPattern(i);
        if (shared >= patternLength) {
            return false;
        }
        if (i + shared >= textLength) {
            return true;
        }
        return text[i + shared] < pattern[shared];
    }

    private int sharedWithPattern(int i) {
        int rest = textLength - i;
        int most = rest < patternLength ? rest : patternLength;
        for (int k = 0; k < most; k++) {
            if (text[i + k] != pattern[k]) {
                return k;
            }
        }
        return most;
    }
}
