import java.util.Arrays;
import java.util.List;

/** Runs the program beside the model and compares every answer. */
public final class ModelTest {
    private static final int[] WIDE = Answers.wideArguments();
    private static final int[] NARROW = Answers.narrowArguments();

    private static long state;

    public static void main(String[] args) {
        allShortTexts(2, 8, 4);
        allShortTexts(3, 5, 3);
        allShortTexts(4, 4, 2);
        longTexts();
        patternsLongerThanTheText();
        mixedRuns();
        searchesAtEveryCapacity();
        Check.end();
    }

    private static int digit(int number, int place, int base) {
        for (int k = 0; k < place; k++) {
            number /= base;
        }
        return number % base;
    }

    private static int power(int base, int exponent) {
        int product = 1;
        for (int k = 0; k < exponent; k++) {
            product *= base;
        }
        return product;
    }

    /** One object serves all texts and patterns, so leftovers of one would show in the next. */
    private static void allShortTexts(int sigma, int longestText, int longestPattern) {
        InducedSorter x = new InducedSorter(8, sigma);
        Model model = new Model(8, sigma);
        for (int n = 1; n <= longestText; n++) {
            for (int t = 0; t < power(sigma, n); t++) {
                x.clear();
                model.clear();
                for (int i = 0; i < n; i++) {
                    int s = digit(t, i, sigma);
                    Check.same("append", x.append(s), model.append(s));
                }
                Check.same("build", x.build(), model.build());
                allPatterns(x, model, longestPattern);
            }
        }
    }

    private static void allPatterns(InducedSorter x, Model model, int longestPattern) {
        for (int m = 0; m <= longestPattern; m++) {
            for (int p = 0; p < power(model.sigma, m); p++) {
                x.patClear();
                model.patClear();
                for (int i = 0; i < m; i++) {
                    int s = digit(p, i, model.sigma);
                    Check.same("patAppend", x.patAppend(s), model.patAppend(s));
                }
                compare(x, model, NARROW);
            }
        }
    }

    private static void compare(InducedSorter x, Model model, int[] arguments) {
        String where = "T=" + model.text + " P=" + model.pattern;
        Answers.compare(where, Answers.of(x, arguments), model.answers(arguments));
    }

    private static void longTexts() {
        int n = 128;
        int[] same = new int[n];
        int[] falling = new int[n];
        int[] rising = new int[n];
        int[] period = new int[n];
        int[] thueMorse = new int[n];
        int[] lastDiffers = new int[n];
        int[] firstDiffers = new int[n];
        int[] fibonacci = fibonacciWord(n);
        Arrays.fill(same, 63);
        for (int i = 0; i < n; i++) {
            falling[i] = 63 - i / 2;
            rising[i] = i % 64;
            period[i] = i % 3;
            thueMorse[i] = Integer.bitCount(i) % 2;
            lastDiffers[i] = i == n - 1 ? 0 : 1;
            firstDiffers[i] = i == 0 ? 1 : 0;
        }
        int[][] texts = {same, falling, rising, period, thueMorse, lastDiffers, firstDiffers, fibonacci};
        for (int[] text : texts) {
            longText(text);
        }
    }

    private static int[] fibonacciWord(int n) {
        StringBuilder previous = new StringBuilder("1");
        StringBuilder word = new StringBuilder("0");
        while (word.length() < n) {
            StringBuilder next = new StringBuilder(word).append(previous);
            previous = word;
            word = next;
        }
        int[] symbols = new int[n];
        for (int i = 0; i < n; i++) {
            symbols[i] = word.charAt(i) - '0';
        }
        return symbols;
    }

    /** The patterns are windows of the text, and the same with a symbol that need not follow. */
    private static void longText(int[] text) {
        InducedSorter x = new InducedSorter(128, 64);
        Model model = new Model(128, 64);
        for (int s : text) {
            Check.same("append", x.append(s), model.append(s));
        }
        Check.same("build", x.build(), model.build());
        compare(x, model, WIDE);
        int[][] windows = {{0, 1}, {0, 128}, {1, 127}, {60, 2}, {40, 17}, {127, 1}, {100, 28}};
        for (int[] window : windows) {
            x.patClear();
            model.patClear();
            for (int i = 0; i < window[1]; i++) {
                int s = text[window[0] + i];
                Check.same("patAppend", x.patAppend(s), model.patAppend(s));
            }
            compare(x, model, WIDE);
            Check.same("patAppend(2)", x.patAppend(2), model.patAppend(2));
            compare(x, model, WIDE);
        }
    }

    private static void patternsLongerThanTheText() {
        for (int n = 1; n <= 6; n++) {
            for (int last = 0; last < 3; last++) {
                InducedSorter x = new InducedSorter(8, 3);
                Model model = new Model(8, 3);
                for (int i = 0; i < n; i++) {
                    x.append(1);
                    model.append(1);
                }
                Check.same("build", x.build(), model.build());
                for (int i = 0; i < 9; i++) {
                    int s = i == n ? last : 1;
                    Check.same("patAppend", x.patAppend(s), model.patAppend(s));
                    compare(x, model, NARROW);
                }
            }
        }
    }

    /** A fixed sequence of numbers: the same run every time. */
    private static int next(int bound) {
        state = state * 6364136223846793005L + 1442695040888963407L;
        return (int) ((state >>> 33) % bound);
    }

    private static int oddSymbol(int sigma) {
        int[] choices = {-1, sigma, sigma + 1, 64, Integer.MIN_VALUE, Integer.MAX_VALUE};
        return choices[next(choices.length)];
    }

    private static void mixedRuns() {
        int[] capacities = {Integer.MIN_VALUE, 8, 9, 20, 40, 128};
        int[] sigmas = {0, 1, 2, 3, 5, 64};
        for (int run = 0; run < 72; run++) {
            state = run;
            int capacity = capacities[run % 6];
            int sigma = sigmas[run / 6 % 6];
            InducedSorter x = new InducedSorter(capacity, sigma);
            Model model = new Model(capacity, sigma);
            for (int step = 0; step < 250; step++) {
                mixedCall("run " + run + " step " + step, x, model);
            }
        }
    }

    private static void mixedCall(String where, InducedSorter x, Model model) {
        int choice = next(100);
        int s = next(12) == 0 ? oddSymbol(model.sigma) : next(model.sigma);
        if (choice < 45) {
            Check.same(where + " append(" + s + ")", x.append(s), model.append(s));
        } else if (choice < 65) {
            Check.same(where + " patAppend(" + s + ")", x.patAppend(s), model.patAppend(s));
        } else if (choice < 72) {
            x.patClear();
            model.patClear();
        } else if (choice < 74) {
            x.clear();
            model.clear();
        } else {
            Check.same(where + " build()", x.build(), model.build());
        }
        Answers.compare(where, Answers.of(x, NARROW), model.answers(NARROW));
    }

    /** Every capacity, and with them every sigma; the texts repeat themselves, and most patterns are taken from them. */
    private static void searchesAtEveryCapacity() {
        for (int capacity = 8; capacity <= 128; capacity++) {
            state = capacity;
            int sigma = 1 + capacity % 64;
            InducedSorter x = new InducedSorter(capacity, sigma);
            Model model = new Model(capacity, sigma);
            // One call more than there is room for, then a shorter text in the same object.
            searchesIn(x, model, capacity + 1);
            searchesIn(x, model, 1 + next(capacity));
        }
    }

    private static void searchesIn(InducedSorter x, Model model, int calls) {
        x.clear();
        model.clear();
        int period = 1 + next(9);
        for (int i = 0; i < calls; i++) {
            int s = repeatingSymbol(model, period);
            Check.same("append(" + s + ")", x.append(s), model.append(s));
        }
        compare(x, model, WIDE);
        Check.same("build()", x.build(), model.build());
        compare(x, model, WIDE);
        for (int search = 0; search < 3; search++) {
            x.patClear();
            model.patClear();
            growPattern(x, model, next(2) == 0 ? 6 : model.capacity + 1);
        }
        compare(x, model, WIDE);
    }

    private static int repeatingSymbol(Model model, int period) {
        int n = model.text.size();
        return n >= period && next(16) > 0 ? model.text.get(n - period) : next(model.sigma);
    }

    private static void growPattern(InducedSorter x, Model model, int calls) {
        for (int i = 0; i < calls; i++) {
            int s = continuingSymbol(model);
            Check.same("patAppend(" + s + ")", x.patAppend(s), model.patAppend(s));
            Check.same("pattern answers with T=" + model.text + " P=" + model.pattern,
                Answers.ofPattern(x), model.answersOfPattern());
            Check.same("build() with P=" + model.pattern, x.build(), model.build());
        }
    }

    /** Most often one with which the pattern still occurs. */
    private static int continuingSymbol(Model model) {
        List<Integer> places = model.occurrences();
        int m = model.pattern.size();
        if (!places.isEmpty() && next(24) > 0) {
            int i = places.get(next(places.size()));
            if (i + m < model.text.size()) {
                return model.text.get(i + m);
            }
        }
        return next(model.sigma);
    }
}
