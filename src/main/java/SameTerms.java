import java.util.Arrays;

/**
 * Terms that are told to be equal, and all that follows of it.
 *
 * What follows is worked out by congruence closure, and kept until a term or an equation comes or goes.
 * Every row is made with the object; no call makes another one.
 */
public final class SameTerms {
    public static final int NONE = -1, BAD = -2, FULL = -3;

    private static final int MOST_TERMS = 250;
    private static final int MOST_EQUATIONS = 60;
    private static final int MOST_DIFFERENCES = 30;

    private final Terms terms;
    private final Pairs equations;
    private final Pairs differences;
    private final Closure closure;

    // Here the time of a joining is how many of the first equations were enough for it.
    private final Forest byEquations;
    private boolean byEquationsHolds;

    // Here the time of a joining is its round.
    private final Forest byRounds;
    private boolean byRoundsHolds;

    // Here some of the equations are tried; nothing in it outlives the call.
    private final Forest trial;

    // The reasons are asked for one by one, so those of the last two terms are kept.
    private boolean reasonsHold;
    private int reasonsOne;
    private int reasonsOther;
    private long reasons;

    public SameTerms() {
        terms = new Terms();
        equations = new Pairs(MOST_EQUATIONS);
        differences = new Pairs(MOST_DIFFERENCES);
        closure = new Closure();
        byEquations = new Forest();
        byRounds = new Forest();
        trial = new Forest();
    }

    public int clear() {
        int before = terms.total;
        terms.total = 0;
        equations.total = 0;
        differences.total = 0;
        forget();
        return before;
    }

    public int constant() {
        forget();
        return terms.add(NONE, NONE);
    }

    public int apply(int a, int b) {
        if (!areTerms(a, b)) {
            return BAD;
        }
        int known = terms.find(a, b);
        if (known != NONE) {
            return known;
        }
        forget();
        return terms.add(a, b);
    }

    public int equate(int a, int b) {
        if (!areTerms(a, b)) {
            return BAD;
        }
        forget();
        return equations.add(a, b);
    }

    public int back(int n) {
        if (n < 0 || n > equations.total) {
            return BAD;
        }
        forget();
        equations.total -= n;
        return equations.total;
    }

    public int differ(int a, int b) {
        return areTerms(a, b) ? differences.add(a, b) : BAD;
    }

    public int clash() {
        Forest classes = classes();
        for (int i = 0; i < differences.total; i++) {
            if (classes.meeting(differences.left[i], differences.right[i]) != NONE) {
                return i;
            }
        }
        return NONE;
    }

    public int same(int a, int b) {
        if (!areTerms(a, b)) {
            return BAD;
        }
        return classes().meeting(a, b) == NONE ? 0 : 1;
    }

    public int least(int a) {
        if (!terms.has(a)) {
            return BAD;
        }
        Forest classes = classes();
        return classes.lowest[classes.top(a)];
    }

    public int size(int a) {
        if (!terms.has(a)) {
            return BAD;
        }
        Forest classes = classes();
        return classes.members[classes.top(a)];
    }

    public int since(int a, int b) {
        return areTerms(a, b) ? classes().meeting(a, b) : BAD;
    }

    public int round(int a, int b) {
        return areTerms(a, b) ? rounds().meeting(a, b) : BAD;
    }

    public int why(int a, int b, int k) {
        if (!areTerms(a, b) || k < NONE) {
            return BAD;
        }
        if (classes().meeting(a, b) == NONE) {
            return NONE;
        }
        long set = reasonsOf(a, b);
        return k == NONE ? Long.bitCount(set) : equationAt(set, k);
    }

    public int gives(long set, int a, int b) {
        if (!areTerms(a, b) || (set >>> equations.total) != 0) {
            return BAD;
        }
        closeOver(set);
        return trial.meeting(a, b) == NONE ? 0 : 1;
    }

    public int told(int a, int what) {
        switch (what) {
            case 0:
                return terms.has(a) ? terms.first[a] : NONE;
            case 1:
                return terms.has(a) ? terms.second[a] : NONE;
            case 2:
                return equations.has(a) ? equations.left[a] : NONE;
            case 3:
                return equations.has(a) ? equations.right[a] : NONE;
            case 4:
                return differences.has(a) ? differences.left[a] : NONE;
            case 5:
                return differences.has(a) ? differences.right[a] : NONE;
            default:
                return BAD;
        }
    }

    public int count(int what) {
        switch (what) {
            case 0:
                return terms.total;
            case 1:
                return equations.total;
            case 2:
                return differences.total;
            case 3:
                return classes().trees;
            case 4:
                return rounds().latest;
            default:
                return BAD;
        }
    }

    private boolean areTerms(int a, int b) {
        return terms.has(a) && terms.has(b);
    }

    private void forget() {
        byEquationsHolds = false;
        byRoundsHolds = false;
        reasonsHold = false;
    }

    private Forest classes() {
        if (!byEquationsHolds) {
            closure.begin(terms, byEquations);
            for (int i = 0; i < equations.total; i++) {
                closure.expect(equations.left[i], equations.right[i]);
                closure.settle(terms, byEquations, i + 1);
            }
            byEquationsHolds = true;
        }
        return byEquations;
    }

    private Forest rounds() {
        if (!byRoundsHolds) {
            closure.begin(terms, byRounds);
            for (int i = 0; i < equations.total; i++) {
                closure.expect(equations.left[i], equations.right[i]);
            }
            for (int r = 0; r < Closure.MOST_STEPS && closure.expected > 0; r++) {
                closure.step(terms, byRounds, r);
            }
            byRoundsHolds = true;
        }
        return byRounds;
    }

    private void closeOver(long set) {
        closure.begin(terms, trial);
        for (int i = 0; i < equations.total; i++) {
            if (((set >>> i) & 1) != 0) {
                closure.expect(equations.left[i], equations.right[i]);
            }
        }
        closure.settle(terms, trial, 0);
    }

    /** How many of the first equations are enough, at least, beside those that are tried already. */
    private int enoughBesideTrial(int a, int b) {
        for (int i = 0; i < equations.total && trial.meeting(a, b) == NONE; i++) {
            closure.expect(equations.left[i], equations.right[i]);
            closure.settle(terms, trial, i + 1);
        }
        return trial.meeting(a, b);
    }

    /**
     * The document lets equations go from the latest one on. The next that can't go is then the last
     * of those first ones that are just enough beside what is kept, and all between it and these go.
     */
    private long reasonsOf(int a, int b) {
        if (reasonsHold && reasonsOne == a && reasonsOther == b) {
            return reasons;
        }
        long kept = 0;
        int needed = classes().meeting(a, b);
        for (int i = 0; i < MOST_EQUATIONS && needed > 0; i++) {
            kept |= 1L << (needed - 1);
            closeOver(kept);
            needed = enoughBesideTrial(a, b);
        }
        reasonsHold = true;
        reasonsOne = a;
        reasonsOther = b;
        reasons = kept;
        return kept;
    }

    private static int equationAt(long set, int k) {
        int before = 0;
        for (int i = 0; i < MOST_EQUATIONS; i++) {
            if (((set >>> i) & 1) != 0) {
                if (before == k) {
                    return i;
                }
                before++;
            }
        }
        return NONE;
    }

    /** All terms, and for each one the applications that it is a part of. */
    private static final class Terms {
        static final int MOST_USES = 2 * MOST_TERMS;

        final int[] first = new int[MOST_TERMS];
        final int[] second = new int[MOST_TERMS];
        int total;

        // Application t uses its first term by use 2t and its second one by use 2t + 1.
        final int[] lastUse = new int[MOST_TERMS];
        final int[] useBefore = new int[MOST_USES];

        boolean has(int t) {
            return t >= 0 && t < total;
        }

        int find(int a, int b) {
            for (int t = 0; t < total; t++) {
                if (first[t] == a && second[t] == b) {
                    return t;
                }
            }
            return NONE;
        }

        /** A constant has NONE for both of its parts. */
        int add(int a, int b) {
            if (total >= MOST_TERMS) {
                return FULL;
            }
            int t = total;
            total++;
            first[t] = a;
            second[t] = b;
            lastUse[t] = NONE;
            if (a != NONE && b != NONE) {
                use(a, 2 * t);
                use(b, 2 * t + 1);
            }
            return t;
        }

        private void use(int part, int how) {
            useBefore[how] = lastUse[part];
            lastUse[part] = how;
        }
    }

    /** Pairs of terms in the order in which they were told. */
    private static final class Pairs {
        final int[] left;
        final int[] right;
        int total;

        Pairs(int most) {
            int length = Math.max(most, 0);
            left = new int[length];
            right = new int[length];
        }

        boolean has(int i) {
            return i >= 0 && i < total;
        }

        int add(int a, int b) {
            if (total >= left.length) {
                return FULL;
            }
            left[total] = a;
            right[total] = b;
            total++;
            return total - 1;
        }
    }

    /**
     * Classes that only join, each a tree, and when they joined. The smaller tree always goes below the
     * top of the larger one, and no way up is ever made shorter: so ways stay short, the times on a way
     * up never fall, and of two terms it can still be told when they met.
     */
    private static final class Forest {
        // Later than any time: no number of equations and no round comes near it.
        private static final int NEVER = 1_000_000;

        final int[] members = new int[MOST_TERMS];
        final int[] lowest = new int[MOST_TERMS];
        final int[] nextMember = new int[MOST_TERMS];
        int trees;
        int latest;

        private final int[] above = new int[MOST_TERMS];
        private final int[] joined = new int[MOST_TERMS];

        void plant(int total) {
            for (int t = 0; t < total; t++) {
                members[t] = 1;
                lowest[t] = t;
                nextMember[t] = t;
                above[t] = t;
                joined[t] = NEVER;
            }
            trees = total;
            latest = 0;
        }

        int top(int t) {
            int at = t;
            for (int i = 0; i < MOST_TERMS && above[at] != at; i++) {
                at = above[at];
            }
            return at;
        }

        /** When two terms came into one class, or NONE. The way that was joined first is gone up first. */
        int meeting(int a, int b) {
            int x = a;
            int y = b;
            int time = 0;
            for (int i = 0; i < 2 * MOST_TERMS && x != y; i++) {
                if (joined[x] > joined[y]) {
                    int other = x;
                    x = y;
                    y = other;
                }
                if (joined[x] == NEVER) {
                    return NONE;
                }
                time = joined[x];
                x = above[x];
            }
            return time;
        }

        /** Both are tops, and two. */
        void join(int small, int large, int time) {
            above[small] = large;
            joined[small] = time;
            members[large] += members[small];
            lowest[large] = Math.min(lowest[large], lowest[small]);
            int next = nextMember[small];
            nextMember[small] = nextMember[large];
            nextMember[large] = next;
            trees--;
            latest = time;
        }
    }

    /**
     * Joins what is expected to be the same, and finds which applications must be the same then.
     * An application's sign is made of the tops of its two parts. Of the applications with one sign,
     * one alone stands in the buckets; the others are expected to be the same as it, each once, and are
     * done with, for their parts stay the same as its parts.
     */
    private static final class Closure {
        // Each step but the first of a settling comes after a joining, and there are fewer than terms.
        static final int MOST_STEPS = 2 * MOST_TERMS;

        private static final int BUCKETS = 256;

        int expected;

        private final int[] one = new int[MOST_EQUATIONS + MOST_TERMS];
        private final int[] other = new int[MOST_EQUATIONS + MOST_TERMS];
        private final int[] bucket = new int[BUCKETS];
        private final int[] nextInBucket = new int[MOST_TERMS];
        private final int[] sign = new int[MOST_TERMS];
        private final boolean[] stands = new boolean[MOST_TERMS];
        private final int[] loose = new int[MOST_TERMS];
        private int looseTotal;

        void begin(Terms terms, Forest forest) {
            forest.plant(terms.total);
            Arrays.fill(bucket, NONE);
            expected = 0;
            looseTotal = 0;
            for (int t = 0; t < terms.total; t++) {
                if (terms.first[t] != NONE) {
                    place(terms, forest, t);
                }
            }
        }

        void expect(int a, int b) {
            if (expected < one.length) {
                one[expected] = a;
                other[expected] = b;
                expected++;
            }
        }

        void settle(Terms terms, Forest forest, int time) {
            for (int i = 0; i < MOST_STEPS && expected > 0; i++) {
                step(terms, forest, time);
            }
        }

        /** All that is expected is joined before any new sign is made: such a step is one round. */
        void step(Terms terms, Forest forest, int time) {
            for (int i = 0; i < expected; i++) {
                unite(terms, forest, i, time);
            }
            expected = 0;
            for (int i = 0; i < looseTotal; i++) {
                takeOut(loose[i]);
                place(terms, forest, loose[i]);
            }
            looseTotal = 0;
        }

        private void unite(Terms terms, Forest forest, int i, int time) {
            int x = forest.top(one[i]);
            int y = forest.top(other[i]);
            if (x == y) {
                return;
            }
            boolean swap = forest.members[x] > forest.members[y];
            int small = swap ? y : x;
            int large = swap ? x : y;
            loosenUsers(terms, forest, small);
            forest.join(small, large, time);
        }

        private void loosenUsers(Terms terms, Forest forest, int top) {
            int part = top;
            for (int i = 0; i < forest.members[top]; i++) {
                int how = terms.lastUse[part];
                for (int j = 0; j < Terms.MOST_USES && how != NONE; j++) {
                    int user = how / 2;
                    if (stands[user] && looseTotal < loose.length) {
                        stands[user] = false;
                        loose[looseTotal] = user;
                        looseTotal++;
                    }
                    how = terms.useBefore[how];
                }
                part = forest.nextMember[part];
            }
        }

        /** Until then a loose application does no harm in its bucket: its sign has a top that is none any more. */
        private void takeOut(int t) {
            int in = sign[t] % BUCKETS;
            if (bucket[in] == t) {
                bucket[in] = nextInBucket[t];
                return;
            }
            int before = bucket[in];
            for (int i = 0; i < MOST_TERMS && before != NONE; i++) {
                if (nextInBucket[before] == t) {
                    nextInBucket[before] = nextInBucket[t];
                    return;
                }
                before = nextInBucket[before];
            }
        }

        private void place(Terms terms, Forest forest, int t) {
            int made = forest.top(terms.first[t]) * MOST_TERMS + forest.top(terms.second[t]);
            int in = made % BUCKETS;
            int standing = bucket[in];
            for (int i = 0; i < MOST_TERMS && standing != NONE; i++) {
                if (sign[standing] == made) {
                    expect(t, standing);
                    return;
                }
                standing = nextInBucket[standing];
            }
            stands[t] = true;
            sign[t] = made;
            nextInBucket[t] = bucket[in];
            bucket[in] = t;
        }
    }
}
