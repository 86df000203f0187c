/** Runs the test of one sentence of the document in every way, and says the sentence where it does not hold. */
final class Sentences {
    interface Test {
        void on(Run r);
    }

    interface SizedTest {
        void on(Run r, int n);
    }

    interface OneTerm {
        int on(SameTerms x, int a);
    }

    interface TwoTerms {
        int on(SameTerms x, int a, int b);
    }

    private final Check check = new Check();

    void holds(String sentence, Test test) {
        for (Run.Way way : Run.Way.values()) {
            test.on(new Run(check, sentence, way));
        }
    }

    /** For a test that leaves no calls for another way. */
    void holdsAtFirst(String sentence, Test test) {
        test.on(new Run(check, sentence, Run.Way.NEW));
    }

    void holds(String sentence, int[] sizes, SizedTest test) {
        for (int n : sizes) {
            holds(sentence + " (" + n + ")", r -> test.on(r, n));
        }
    }

    /** With n terms, up to as many as there can be, each number that is none of theirs is BAD. */
    void badTerm(String sentence, OneTerm call) {
        holds(sentence, new int[] {0, 1, 2, 249, 250}, (r, n) -> {
            r.constants(n);
            for (int a : noneOf(n)) {
                r.due("of " + a, call.on(r.ask(), a), SameTerms.BAD);
            }
        });
    }

    /** The same for each of two terms alone, and for both. */
    void badTerms(String sentence, TwoTerms call) {
        holds(sentence, new int[] {0, 1, 2, 249, 250}, (r, n) -> {
            r.constants(n);
            for (int a : noneOf(n)) {
                r.due("of " + Run.of(a, 0), call.on(r.ask(), a, 0), SameTerms.BAD);
                r.due("of " + Run.of(0, a), call.on(r.ask(), 0, a), SameTerms.BAD);
                r.due("of " + Run.of(a, n - 1), call.on(r.ask(), a, n - 1), SameTerms.BAD);
                r.due("of " + Run.of(n - 1, a), call.on(r.ask(), n - 1, a), SameTerms.BAD);
                r.due("of " + Run.of(a, a), call.on(r.ask(), a, a), SameTerms.BAD);
            }
        });
    }

    /** Numbers that are none of the first n: those next to the limits, and the least and greatest int. */
    static int[] noneOf(int n) {
        return new int[] {-1, -2, -3, -n - 1, Integer.MIN_VALUE, Integer.MIN_VALUE + 1, Integer.MIN_VALUE + n,
            n, n + 1, 2 * n + 1, Math.max(n, 250), Math.max(n, 256), 1 << 16, Integer.MAX_VALUE - 1, Integer.MAX_VALUE};
    }

    void end() {
        check.end();
    }
}
