import java.util.ArrayList;
import java.util.List;
import java.util.function.Consumer;

/**
 * How an object can stand, with a way to bring a new one there. Two objects that
 * stand alike must answer alike from then on: that is how a test sees what no
 * answer shows at once, such as the pattern while nothing is built.
 */
record State(int capacity, int sigma, String text, String pattern, boolean built) {

    /** Text and pattern empty, shortest, one below full and full, built and not, in the smallest and the widest object. */
    static List<State> all() {
        List<State> states = new ArrayList<>();
        for (String text : new String[] {"", "a", "bababba", "abbababa"}) {
            for (String pattern : new String[] {"", "b", "ab", "babbaba", "abbababa"}) {
                addBothWays(states, new State(8, 2, text, pattern, false));
            }
        }
        addBothWays(states, new State(8, 1, "aaaaaaaa", "aaa", false));
        addBothWays(states, new State(9, 3, "cabcabca", "cabcabcab", false));
        addBothWays(states, new State(128, 64, scattered(127), scattered(2), false));
        addBothWays(states, new State(128, 64, scattered(128), scattered(127), false));
        addBothWays(states, new State(128, 64, scattered(128), scattered(128), false));
        return states;
    }

    static List<State> allBuilt() {
        return all().stream().filter(State::built).toList();
    }

    private static void addBothWays(List<State> states, State notBuilt) {
        states.add(notBuilt);
        if (!notBuilt.text.isEmpty()) {
            states.add(notBuilt.withBuilt(true));
        }
    }

    private static String scattered(int n) {
        int[] symbols = new int[n];
        for (int i = 0; i < n; i++) {
            symbols[i] = i * i * 37 % 64;
        }
        return Letters.of(symbols);
    }

    State withText(String other) {
        return new State(capacity, sigma, other, pattern, built);
    }

    State withPattern(String other) {
        return new State(capacity, sigma, text, other, built);
    }

    State withBuilt(boolean other) {
        return new State(capacity, sigma, text, pattern, other);
    }

    InducedSorter make() {
        InducedSorter x = new InducedSorter(capacity, sigma);
        bring(x);
        return x;
    }

    /** Stands as {@link #make} does, but other texts and patterns have been there before. */
    InducedSorter makeAfterOthers() {
        InducedSorter x = new InducedSorter(capacity, sigma);
        for (int i = 0; i < capacity; i++) {
            x.append(sigma - 1);
            x.patAppend(i % sigma);
        }
        x.build();
        x.clear();
        x.patClear();
        bring(x);
        return x;
    }

    private void bring(InducedSorter x) {
        Letters.feed(x, text);
        Letters.extendPattern(x, pattern);
        if (built) {
            Check.same("build() to reach " + this, x.build(), true);
        }
    }

    /** Uses x up: it is not at this state any more afterwards. */
    void isWhere(String where, InducedSorter x) {
        Answers.compare(where + ", then " + this, everything(x), everything(make()));
    }

    static void changesNothing(String call, Consumer<InducedSorter> calls) {
        for (State state : all()) {
            InducedSorter x = state.make();
            calls.accept(x);
            state.isWhere(call, x);
        }
    }

    private List<Object> everything(InducedSorter x) {
        List<Object> all = new ArrayList<>(Answers.view(x));
        all.add("build() " + x.build());
        all.addAll(Answers.view(x));
        addPattern(all, x);
        addBounds(all, x);
        return all;
    }

    /** With the pattern as its text an object tells whether the pattern is still that one. */
    private void addPattern(List<Object> all, InducedSorter x) {
        x.clear();
        for (char c : pattern.toCharArray()) {
            x.append(c - 'a');
        }
        x.build();
        all.addAll(Answers.view(x));
    }

    private static void addBounds(List<Object> all, InducedSorter x) {
        all.add("room left in the pattern " + roomInPattern(x));
        all.add("symbols for the pattern " + symbolsOfPattern(x));
        all.add("room in the empty pattern " + roomInPattern(x));
        all.add("symbols for the text " + symbolsOfText(x));
        all.add("room in the empty text " + roomInText(x));
    }

    /** Tries every number near a symbol, each on the empty text, and leaves the text empty. */
    static List<Integer> symbolsOfText(InducedSorter x) {
        List<Integer> taken = new ArrayList<>();
        for (int s : Answers.wideArguments()) {
            x.clear();
            if (x.append(s)) {
                taken.add(s);
            }
        }
        x.clear();
        return taken;
    }

    static List<Integer> symbolsOfPattern(InducedSorter x) {
        List<Integer> taken = new ArrayList<>();
        for (int s : Answers.wideArguments()) {
            x.patClear();
            if (x.patAppend(s)) {
                taken.add(s);
            }
        }
        x.patClear();
        return taken;
    }

    /** Fills the text, and tells how many symbols it took. */
    static int roomInText(InducedSorter x) {
        int taken = 0;
        for (int i = 0; i < 300; i++) {
            taken += x.append(0) ? 1 : 0;
        }
        return taken;
    }

    static int roomInPattern(InducedSorter x) {
        int taken = 0;
        for (int i = 0; i < 300; i++) {
            taken += x.patAppend(0) ? 1 : 0;
        }
        return taken;
    }

    @Override
    public String toString() {
        return "T=" + Letters.brief(text) + " P=" + Letters.brief(pattern) + (built ? " built" : " not built")
            + " in (" + capacity + ", " + sigma + ")";
    }
}
