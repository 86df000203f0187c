/**
 * The document's words, done one by one with no thought of speed: what the program is compared with.
 * A relation is a row that gives each term the name of its class.
 */
final class PlainTerms {
    private static final int NONE = -1, BAD = -2, FULL = -3;

    private final int[][] terms = new int[250][];
    private final int[][] equations = new int[60][];
    private final int[][] differences = new int[30][];
    private int termCount;
    private int equationCount;
    private int differenceCount;

    int clear() {
        int before = termCount;
        termCount = 0;
        equationCount = 0;
        differenceCount = 0;
        return before;
    }

    int constant() {
        return addTerm(NONE, NONE);
    }

    int apply(int a, int b) {
        if (bad(a, b)) {
            return BAD;
        }
        for (int t = 0; t < termCount; t++) {
            if (terms[t][0] == a && terms[t][1] == b) {
                return t;
            }
        }
        return addTerm(a, b);
    }

    private int addTerm(int a, int b) {
        if (termCount == 250) {
            return FULL;
        }
        terms[termCount] = new int[] {a, b};
        return termCount++;
    }

    int equate(int a, int b) {
        if (bad(a, b)) {
            return BAD;
        }
        if (equationCount == 60) {
            return FULL;
        }
        equations[equationCount] = new int[] {a, b};
        return equationCount++;
    }

    int back(int n) {
        if (n < 0 || n > equationCount) {
            return BAD;
        }
        equationCount -= n;
        return equationCount;
    }

    int differ(int a, int b) {
        if (bad(a, b)) {
            return BAD;
        }
        if (differenceCount == 30) {
            return FULL;
        }
        differences[differenceCount] = new int[] {a, b};
        return differenceCount++;
    }

    int clash() {
        int[] of = given(all());
        for (int i = 0; i < differenceCount; i++) {
            if (of[differences[i][0]] == of[differences[i][1]]) {
                return i;
            }
        }
        return NONE;
    }

    int same(int a, int b) {
        return bad(a, b) ? BAD : given(all(), a, b) ? 1 : 0;
    }

    int least(int a) {
        if (bad(a, a)) {
            return BAD;
        }
        int[] of = given(all());
        int t = 0;
        while (of[t] != of[a]) {
            t++;
        }
        return t;
    }

    int size(int a) {
        if (bad(a, a)) {
            return BAD;
        }
        int[] of = given(all());
        int n = 0;
        for (int t = 0; t < termCount; t++) {
            n += of[t] == of[a] ? 1 : 0;
        }
        return n;
    }

    int since(int a, int b) {
        if (bad(a, b)) {
            return BAD;
        }
        for (int n = 0; n <= equationCount; n++) {
            if (given((1L << n) - 1, a, b)) {
                return n;
            }
        }
        return NONE;
    }

    int round(int a, int b) {
        if (bad(a, b)) {
            return BAD;
        }
        if (!given(all(), a, b)) {
            return NONE;
        }
        int r = 0;
        int[] of = byEquationsAlone();
        while (of[a] != of[b]) {
            of = roundAfter(of);
            r++;
        }
        return r;
    }

    int why(int a, int b, int k) {
        if (bad(a, b) || k < NONE) {
            return BAD;
        }
        if (!given(all(), a, b)) {
            return NONE;
        }
        long left = all();
        for (int i = equationCount - 1; i >= 0; i--) {
            if (given(left & ~(1L << i), a, b)) {
                left &= ~(1L << i);
            }
        }
        if (k == NONE) {
            return Long.bitCount(left);
        }
        int nth = 0;
        for (int i = 0; i < equationCount; i++) {
            if ((left >>> i & 1) == 1 && nth++ == k) {
                return i;
            }
        }
        return NONE;
    }

    int gives(long set, int a, int b) {
        if (bad(a, b) || (set & ~all()) != 0) {
            return BAD;
        }
        return given(set, a, b) ? 1 : 0;
    }

    int told(int a, int what) {
        switch (what) {
            case 0: case 1:
                return a < 0 || a >= termCount ? NONE : terms[a][what];
            case 2: case 3:
                return a < 0 || a >= equationCount ? NONE : equations[a][what - 2];
            case 4: case 5:
                return a < 0 || a >= differenceCount ? NONE : differences[a][what - 4];
            default:
                return BAD;
        }
    }

    int count(int what) {
        switch (what) {
            case 0:
                return termCount;
            case 1:
                return equationCount;
            case 2:
                return differenceCount;
            case 3:
                int n = 0;
                for (int t = 0; t < termCount; t++) {
                    n += least(t) == t ? 1 : 0;
                }
                return n;
            case 4:
                int greatest = 0;
                int[] of = byEquationsAlone();
                int[] next = roundAfter(of);
                while (!java.util.Arrays.equals(of, next)) {
                    greatest++;
                    of = next;
                    next = roundAfter(of);
                }
                return greatest;
            default:
                return BAD;
        }
    }

    private boolean bad(int a, int b) {
        return a < 0 || b < 0 || a >= termCount || b >= termCount;
    }

    private long all() {
        return (1L << equationCount) - 1;
    }

    private boolean given(long set, int a, int b) {
        int[] of = given(set);
        return of[a] == of[b];
    }

    private int[] given(long set) {
        int[] of = new int[termCount];
        for (int t = 0; t < termCount; t++) {
            of[t] = t;
        }
        for (int i = 0; i < equationCount; i++) {
            if ((set >>> i & 1) == 1) {
                rename(of, equations[i][0], equations[i][1]);
            }
        }
        boolean more = true;
        while (more) {
            more = false;
            for (int t = 0; t < termCount; t++) {
                for (int u = 0; u < t; u++) {
                    if (of[t] != of[u] && alike(of, t, u)) {
                        rename(of, t, u);
                        more = true;
                    }
                }
            }
        }
        return of;
    }

    private int[] byEquationsAlone() {
        int[] of = new int[termCount];
        for (int t = 0; t < termCount; t++) {
            of[t] = t;
        }
        for (int i = 0; i < equationCount; i++) {
            rename(of, equations[i][0], equations[i][1]);
        }
        return of;
    }

    private int[] roundAfter(int[] before) {
        int[] of = byEquationsAlone();
        for (int t = 0; t < termCount; t++) {
            for (int u = 0; u < t; u++) {
                if (alike(before, t, u)) {
                    rename(of, t, u);
                }
            }
        }
        return of;
    }

    private boolean alike(int[] of, int t, int u) {
        return terms[t][0] != NONE && terms[u][0] != NONE
            && of[terms[t][0]] == of[terms[u][0]] && of[terms[t][1]] == of[terms[u][1]];
    }

    // The lesser name stays, so that equal relations have equal rows.
    private static void rename(int[] of, int t, int u) {
        int from = Math.max(of[t], of[u]);
        int to = Math.min(of[t], of[u]);
        for (int i = 0; i < of.length; i++) {
            if (of[i] == from) {
                of[i] = to;
            }
        }
    }
}
