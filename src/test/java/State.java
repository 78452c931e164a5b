import java.util.ArrayList;
import java.util.List;
import java.util.function.Consumer;
import java.util.function.Supplier;

/**
 * How an object can stand, with a way to bring a new one there. Two objects that
 * stand alike must answer alike from then on: that is how a test sees what no
 * answer shows at once, such as the pattern while nothing is built.
 */
record State(int capacity, int sigma, String text, String pattern, boolean built) {

    /** Text and pattern empty, short, one below full and full, built and not, in the smallest and the widest object. */
    static List<State> all() {
        List<State> states = new ArrayList<>();
        for (String text : new String[] {"", "a", "bababba", "abbababa"}) {
            for (String pattern : new String[] {"", "b", "ab", "babbaba", "abbababa"}) {
                addBothWays(states, new State(8, 2, text, pattern, false));
            }
        }
        states.add(new State(9, 3, "", "cab", false));
        states.add(new State(128, 64, "", scattered(5), false));
        addBothWays(states, new State(8, 1, "aaaaaaaa", "aaa", false));
        addBothWays(states, new State(9, 3, "cabcabca", "cabcabcab", false));
        addBothWays(states, new State(128, 64, scattered(127), scattered(2), false));
        addBothWays(states, new State(128, 64, scattered(128), scattered(127), false));
        addBothWays(states, new State(128, 64, scattered(128), scattered(128), false));
        return states;
    }

    static List<State> allBuilt() {
        return all().stream().filter(State::built).toList();
    }

    private static void addBothWays(List<State> states, State notBuilt) {
        states.add(notBuilt);
        if (!notBuilt.text.isEmpty()) {
            states.add(notBuilt.withBuilt(true));
        }
    }

    private static String scattered(int n) {
        int[] symbols = new int[n];
        for (int i = 0; i < n; i++) {
            symbols[i] = (i * i + 3) * 37 % 64;
        }
        return Letters.of(symbols);
    }

    boolean textIsFull() {
        return text.length() == capacity;
    }

    boolean patternIsFull() {
        return pattern.length() == capacity;
    }

    State withText(String other) {
        return new State(capacity, sigma, other, pattern, built);
    }

    State withPattern(String other) {
        return new State(capacity, sigma, text, other, built);
    }

    State withBuilt(boolean other) {
        return new State(capacity, sigma, text, pattern, other);
    }

    InducedSorter make() {
        InducedSorter x = new InducedSorter(capacity, sigma);
        bring(x);
        return x;
    }

    /** Stands as {@link #make} does, but other texts and patterns have been there before. */
    InducedSorter makeAfterOthers() {
        InducedSorter x = new InducedSorter(capacity, sigma);
        for (int i = 0; i < capacity; i++) {
            x.append(sigma - 1);
            x.patAppend(i % sigma);
        }
        x.build();
        x.clear();
        x.patClear();
        bring(x);
        return x;
    }

    private void bring(InducedSorter x) {
        Letters.feed(x, text);
        Letters.extendPattern(x, pattern);
        if (built) {
            Check.same("build() to reach " + this, x.build(), true);
        }
    }

    static void changesNothing(String call, Consumer<InducedSorter> calls) {
        for (State state : all()) {
            state.staysAfter(call, calls);
        }
    }

    void staysAfter(String call, Consumer<InducedSorter> calls) {
        becomes(this, call, calls);
    }

    void becomes(State due, String call, Consumer<InducedSorter> calls) {
        due.isWhere(call + " at " + this, () -> {
            InducedSorter x = make();
            calls.accept(x);
            return x;
        });
    }

    /** Makes an object for every look, since the look itself might wipe out the difference. */
    void isWhere(String where, Supplier<InducedSorter> maker) {
        for (Answers.Look look : Answers.looks()) {
            alike(where, look, maker.get(), make());
            alike(where + ", then build()", look, afterBuild(maker.get()), afterBuild(make()));
            alike(where + ", then P as T", look, withPatternAsText(maker.get()), withPatternAsText(make()));
        }
        Check.same(where + ", then room in P", roomInPattern(maker.get()), capacity - pattern.length());
        Check.same(where + ", then room in T", roomInText(maker.get()), capacity - text.length());
        Check.same(where + ", then symbols for P", symbolsOfPattern(maker.get()).size(), sigma);
        Check.same(where + ", then symbols for T", symbolsOfText(maker.get()).size(), sigma);
    }

    private static void alike(String where, Answers.Look look, InducedSorter got, InducedSorter due) {
        Answers.compare(where, look.at(got), look.at(due));
    }

    private static InducedSorter afterBuild(InducedSorter x) {
        x.build();
        return x;
    }

    /** In a text that is the pattern, an object tells whether the pattern is still that one. */
    private InducedSorter withPatternAsText(InducedSorter x) {
        // Without need clear() is not called: it is one of the calls that these objects are for.
        if (!text.isEmpty()) {
            x.clear();
        }
        for (char c : pattern.toCharArray()) {
            x.append(c - 'a');
        }
        return pattern.isEmpty() ? x : afterBuild(x);
    }

    /** Tries every number near a symbol, each on the empty text, and leaves the text empty. */
    static List<Integer> symbolsOfText(InducedSorter x) {
        List<Integer> taken = new ArrayList<>();
        for (int s : Answers.wideArguments()) {
            x.clear();
            if (x.append(s)) {
                taken.add(s);
            }
        }
        x.clear();
        return taken;
    }

    static List<Integer> symbolsOfPattern(InducedSorter x) {
        List<Integer> taken = new ArrayList<>();
        for (int s : Answers.wideArguments()) {
            x.patClear();
            if (x.patAppend(s)) {
                taken.add(s);
            }
        }
        x.patClear();
        return taken;
    }

    /** Fills the text, and tells how many symbols it took. */
    static int roomInText(InducedSorter x) {
        int taken = 0;
        for (int i = 0; i < 300; i++) {
            taken += x.append(0) ? 1 : 0;
        }
        return taken;
    }

    static int roomInPattern(InducedSorter x) {
        int taken = 0;
        for (int i = 0; i < 300; i++) {
            taken += x.patAppend(0) ? 1 : 0;
        }
        return taken;
    }

    @Override
    public String toString() {
        return "T=" + Letters.brief(text) + " P=" + Letters.brief(pattern) + (built ? " built" : " not built")
            + " in (" + capacity + ", " + sigma + ")";
    }
}
