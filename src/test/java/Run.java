/**
 * One object under test and the way it came to have no terms. It answers 512 calls alone, so each call
 * goes through ask(), which counts.
 */
final class Run {
    /** A state is to be the same on a new object, after clear, after back, and after both. */
    enum Way {
        NEW(false, false), CLEARED(true, false), BACK(false, true), CLEARED_AND_BACK(true, true);

        private final boolean cleared;
        private final boolean back;

        Way(boolean cleared, boolean back) {
            this.cleared = cleared;
            this.back = back;
        }
    }

    private static final int MOST_CALLS = 512;

    private final SameTerms x = new SameTerms();
    private final Check check;
    private final String name;
    private final boolean back;
    private int calls;

    Run(Check check, String name, Way way) {
        this.check = check;
        this.name = name + " [" + way + "]";
        back = way.back;
        if (way.cleared) {
            tellOtherThings();
            ask().clear();
        }
    }

    SameTerms ask() {
        calls++;
        if (calls > MOST_CALLS) {
            throw new IllegalStateException("more than 512 calls: " + name);
        }
        return x;
    }

    int callsLeft() {
        return MOST_CALLS - calls;
    }

    /** The object after its 512th call, whose answers are free. */
    SameTerms beyond() {
        if (callsLeft() != 0) {
            throw new IllegalStateException("there are calls left: " + name);
        }
        return x;
    }

    void due(String call, long got, long want) {
        check.due(name + ": " + call, got, want);
    }

    void constants(int n) {
        for (int i = 0; i < n; i++) {
            due("constant()", ask().constant(), i);
        }
        ready();
    }

    /** Each term is of the one before it with itself: one equation of the first two makes all the same. */
    void tower(int n) {
        due("constant()", ask().constant(), 0);
        for (int t = 1; t < n; t++) {
            due("apply of the one before", ask().apply(t - 1, t - 1), t);
        }
        ready();
    }

    void equate(int n, int a, int b) {
        for (int i = 0; i < n; i++) {
            ask().equate(a, b);
        }
        ready();
    }

    /** Equation i is of constants i and i + 1. */
    void chain(int n) {
        for (int i = 0; i < n; i++) {
            due("equate" + of(i, i + 1), ask().equate(i, i + 1), i);
        }
        ready();
    }

    void differ(int n, int a, int b) {
        for (int i = 0; i < n; i++) {
            due("differ" + of(a, b), ask().differ(a, b), i);
        }
    }

    /** On the ways with back, here more is told, asked about, and taken back. */
    void ready() {
        if (!back) {
            return;
        }
        int last = ask().count(0) - 1;
        int left = ask().count(1);
        int more = last < 0 ? 0 : Math.min(3, 60 - left);
        for (int i = 0; i < more; i++) {
            ask().equate(last, i * last / 2);
        }
        ask().same(0, last);
        ask().count(4);
        ask().why(0, last, 0);
        due("back(" + more + ")", ask().back(more), left);
    }

    private void tellOtherThings() {
        for (int i = 0; i < 4; i++) {
            ask().constant();
        }
        ask().apply(0, 1);
        ask().apply(0, 2);
        ask().equate(1, 2);
        ask().equate(3, 0);
        ask().differ(4, 5);
        ask().differ(0, 1);
        due("clash() before clear()", ask().clash(), 0);
        due("round(4, 5) before clear()", ask().round(4, 5), 1);
        due("why(4, 5, 0) before clear()", ask().why(4, 5, 0), 0);
        due("gives(2, 4, 5) before clear()", ask().gives(2, 4, 5), 0);
    }

    static String of(int a, int b) {
        return "(" + a + ", " + b + ")";
    }
}
