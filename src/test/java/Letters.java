/** Texts and patterns written as letters: a is symbol 0, b is 1, and so on, past z too. */
final class Letters {
    private Letters() {
    }

    static InducedSorter holding(String text) {
        InducedSorter x = new InducedSorter(128, 64);
        feed(x, text);
        return x;
    }

    static InducedSorter built(String text) {
        InducedSorter x = holding(text);
        Check.same("build() of " + brief(text), x.build(), true);
        return x;
    }

    static InducedSorter searching(String text, String pattern) {
        InducedSorter x = built(text);
        search(x, pattern);
        return x;
    }

    static void feed(InducedSorter x, String text) {
        for (char c : text.toCharArray()) {
            Check.same("append of " + c, x.append(c - 'a'), true);
        }
    }

    static void search(InducedSorter x, String pattern) {
        x.patClear();
        extendPattern(x, pattern);
    }

    static void extendPattern(InducedSorter x, String more) {
        for (char c : more.toCharArray()) {
            Check.same("patAppend of " + c, x.patAppend(c - 'a'), true);
        }
    }

    static String of(int... symbols) {
        StringBuilder text = new StringBuilder();
        for (int s : symbols) {
            text.append((char) ('a' + s));
        }
        return text.toString();
    }

    /** The first n symbols, n up to 64, each once. */
    static String rising(int n) {
        StringBuilder text = new StringBuilder();
        for (int s = 0; s < n; s++) {
            text.append((char) ('a' + s));
        }
        return text.toString();
    }

    static String reversed(String text) {
        return new StringBuilder(text).reverse().toString();
    }

    static String brief(String text) {
        return text.length() <= 16 ? "'" + text + "'" : "'" + text.substring(0, 8) + "...' of " + text.length();
    }
}
