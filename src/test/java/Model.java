import java.util.ArrayList;
import java.util.Collections;
import java.util.HashSet;
import java.util.List;
import java.util.Set;

/**
 * What the document asks for, computed afresh from its definitions at every
 * call and by other means than the program's, so that the two do not share
 * a mistake.
 */
final class Model {
    final int capacity;
    final int sigma;
    final List<Integer> text = new ArrayList<>();
    final List<Integer> pattern = new ArrayList<>();
    boolean built = false;

    Model(int capacity, int sigma) {
        this.capacity = Math.max(8, Math.min(128, capacity));
        this.sigma = Math.max(1, Math.min(64, sigma));
    }

    static int compare(List<Integer> x, List<Integer> y) {
        int shorter = Math.min(x.size(), y.size());
        for (int k = 0; k < shorter; k++) {
            if (!x.get(k).equals(y.get(k))) {
                return Integer.compare(x.get(k), y.get(k));
            }
        }
        return Integer.compare(x.size(), y.size());
    }

    void clear() {
        text.clear();
        built = false;
    }

    boolean append(int s) {
        if (s < 0 || s >= sigma || text.size() == capacity) {
            return false;
        }
        text.add(s);
        built = false;
        return true;
    }

    boolean build() {
        if (text.isEmpty()) {
            return false;
        }
        built = true;
        return true;
    }

    void patClear() {
        pattern.clear();
    }

    boolean patAppend(int s) {
        if (s < 0 || s >= sigma || pattern.size() == capacity) {
            return false;
        }
        pattern.add(s);
        return true;
    }

    private List<Integer> suffix(int i) {
        return text.subList(i, text.size());
    }

    private List<Integer> sortedStarts() {
        List<Integer> starts = new ArrayList<>();
        for (int i = 0; i < text.size(); i++) {
            starts.add(i);
        }
        starts.sort((a, b) -> compare(suffix(a), suffix(b)));
        return starts;
    }

    private int lcp(int i, int j) {
        int shared = 0;
        while (i + shared < text.size() && j + shared < text.size()
                && text.get(i + shared).equals(text.get(j + shared))) {
            shared++;
        }
        return shared;
    }

    List<Integer> occurrences() {
        List<Integer> found = new ArrayList<>();
        int m = pattern.size();
        for (int i = 0; i < text.size() && i + m <= text.size(); i++) {
            if (text.subList(i, i + m).equals(pattern)) {
                found.add(i);
            }
        }
        return found;
    }

    private int smallerThanPattern() {
        int smaller = 0;
        for (int i = 0; i < text.size(); i++) {
            if (compare(suffix(i), pattern) < 0) {
                smaller++;
            }
        }
        return smaller;
    }

    private int distinctSubstrings() {
        Set<List<Integer>> seen = new HashSet<>();
        for (int i = 0; i < text.size(); i++) {
            for (int j = i + 1; j <= text.size(); j++) {
                seen.add(text.subList(i, j));
            }
        }
        return seen.size();
    }

    private int longestRepeat() {
        int longest = 0;
        for (int i = 0; i < text.size(); i++) {
            for (int j = i + 1; j < text.size(); j++) {
                longest = Math.max(longest, lcp(i, j));
            }
        }
        return longest;
    }

    private static int pick(List<Integer> from, int index) {
        return index >= 0 && index < from.size() ? from.get(index) : -1;
    }

    /** The pattern answers that are due now, in the form of {@link Answers#ofPattern}. */
    List<Object> answersOfPattern() {
        List<Integer> found = built ? occurrences() : Collections.emptyList();
        List<Object> all = new ArrayList<>();
        all.add("count " + (built ? found.size() : -1));
        all.add("rangeStart " + (built ? smallerThanPattern() : -1));
        for (int k = -1; k <= text.size(); k++) {
            all.add(pick(found, k));
        }
        return all;
    }

    /** Every answer that is due now, in the form of {@link Answers#of}. */
    List<Object> answers(int[] arguments) {
        List<Integer> starts = Collections.emptyList();
        List<Integer> ranks = new ArrayList<>();
        List<Integer> lcps = new ArrayList<>();
        List<Integer> found = Collections.emptyList();
        if (built) {
            starts = sortedStarts();
            for (int i = 0; i < text.size(); i++) {
                ranks.add(starts.indexOf(i));
                lcps.add(i == 0 ? 0 : lcp(starts.get(i - 1), starts.get(i)));
            }
            found = occurrences();
        }
        List<Object> all = new ArrayList<>();
        all.add("length " + text.size());
        all.add("isBuilt " + built);
        all.add("count " + (built ? found.size() : -1));
        all.add("rangeStart " + (built ? smallerThanPattern() : -1));
        all.add("distinctSubstrings " + (built ? distinctSubstrings() : -1));
        all.add("longestRepeat " + (built ? longestRepeat() : -1));
        for (int a : arguments) {
            all.add("symbolAt(" + a + ") " + pick(text, a));
            all.add("suffixAt(" + a + ") " + pick(starts, a));
            all.add("rankOf(" + a + ") " + pick(ranks, a));
            all.add("lcpAt(" + a + ") " + pick(lcps, a));
            all.add("locate(" + a + ") " + pick(found, a));
        }
        return all;
    }
}
