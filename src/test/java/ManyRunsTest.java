import java.util.Random;

/** Many runs of mixed calls, from fixed seeds, on the program and on PlainTerms: the answers are the same. */
public final class ManyRunsTest {
    // The document promises nothing after the 512th call.
    private static final int MOST_CALLS = 512;
    private static final Check CHECK = new Check();

    private final String name;
    private final Random random;
    private final SameTerms x = new SameTerms();
    private final PlainTerms plain = new PlainTerms();
    private int calls;

    private ManyRunsTest(String kind, long seed) {
        name = kind + " " + seed;
        random = new Random(seed);
    }

    public static void main(String[] args) {
        for (int seed = 0; seed < 3000; seed++) {
            new ManyRunsTest("mixed", seed).mixed();
        }
        for (int seed = 0; seed < 25; seed++) {
            new ManyRunsTest("large", seed).large();
        }
        for (int seed = 0; seed < 200; seed++) {
            new ManyRunsTest("chain", seed).chain();
        }
        for (int seed = 0; seed < 40; seed++) {
            new ManyRunsTest("strides", seed).strides();
        }
        CHECK.end();
    }

    private void mixed() {
        int length = 20 + random.nextInt(200);
        int mostTerms = 4 + random.nextInt(20);
        while (calls < length) {
            int kind = random.nextInt(100);
            if (kind < 4 || plain.count(0) < 2) {
                constant();
            } else if (kind < 24 && plain.count(0) < mostTerms) {
                apply(any(), any());
            } else if (kind < 36) {
                equate(any(), any());
            } else if (kind < 40) {
                back(random.nextInt(5) - 1);
            } else if (kind < 43) {
                differ(any(), any());
            } else if (kind < 44 && random.nextInt(10) == 0) {
                clear();
            } else {
                ask();
            }
        }
    }

    /** Up to all the limits, over few names, so that much is the same. */
    private void large() {
        int names = 2 + random.nextInt(6);
        for (int i = 0; i < names; i++) {
            constant();
        }
        for (int i = 0; i < 260; i++) {
            int from = Math.max(0, plain.count(0) - 1 - random.nextInt(40));
            apply(random.nextInt(3) == 0 ? any() : random.nextInt(names), random.nextBoolean() ? from : any());
        }
        for (int i = 0; i < 63; i++) {
            equate(any(), any());
        }
        for (int i = 0; i < 32; i++) {
            differ(any(), any());
        }
        back(random.nextInt(61));
        while (calls < 450) {
            ask();
        }
        clear();
    }

    /** One name over another again and again, and some of these told to be equal: many rounds. */
    private void chain() {
        constant();
        constant();
        int last = 1;
        int length = 20 + random.nextInt(60);
        for (int i = 0; i < length; i++) {
            last = apply(0, last);
        }
        while (calls < 250) {
            if (random.nextInt(12) == 0) {
                equate(1 + random.nextInt(length), random.nextBoolean() ? 1 : 1 + random.nextInt(length));
            } else if (random.nextInt(30) == 0) {
                back(1);
            } else {
                ask();
            }
        }
    }

    /** Applications whose parts are evenly spaced: a program that sorts them by sums or remainders has many alike. */
    private void strides() {
        int names = 20 + random.nextInt(40);
        int stride = 1 + random.nextInt(12);
        for (int i = 0; i < names; i++) {
            constant();
        }
        int start = random.nextInt(names);
        for (int i = 0; i < 2 * names; i++) {
            apply(i % names, (start + stride * (i % names) + i / names) % names);
        }
        while (calls < 350) {
            if (random.nextInt(6) == 0) {
                equate(random.nextInt(names), random.nextInt(names));
            } else if (random.nextInt(40) == 0) {
                back(1 + random.nextInt(3));
            } else {
                ask();
            }
        }
    }

    private void ask() {
        int a = any();
        int b = random.nextInt(3) == 0 ? any() : alike(a);
        switch (random.nextInt(12)) {
            case 0: due("clash()", x.clash(), plain.clash()); break;
            case 1: due("same" + of(a, b), x.same(a, b), plain.same(a, b)); break;
            case 2: due("least(" + a + ")", x.least(a), plain.least(a)); break;
            case 3: due("size(" + a + ")", x.size(a), plain.size(a)); break;
            case 4: due("since" + of(a, b), x.since(a, b), plain.since(a, b)); break;
            case 5: case 6: due("round" + of(a, b), x.round(a, b), plain.round(a, b)); break;
            case 7: case 8: whys(a, b); break;
            case 9: gives(a, b); break;
            case 10: told(); break;
            default: count(random.nextInt(7) - 1); break;
        }
    }

    private void whys(int a, int b) {
        int many = plain.why(a, b, SameTerms.NONE);
        due("why" + of(a, b) + " how many", x.why(a, b, SameTerms.NONE), many);
        int k = random.nextInt(Math.max(many, 0) + 2) - (random.nextInt(20) == 0 ? 2 : 0);
        due("why" + of(a, b) + " " + k, x.why(a, b, k), plain.why(a, b, k));
    }

    private void gives(int a, int b) {
        long set = random.nextLong() | random.nextLong();
        int told = plain.count(1);
        if (random.nextInt(10) != 0) {
            set &= (1L << told) - 1;
        }
        due("gives(" + set + ") " + of(a, b), x.gives(set, a, b), plain.gives(set, a, b));
    }

    private void told() {
        int a = random.nextInt(70) - 1;
        int what = random.nextInt(8) - 1;
        due("told" + of(a, what), x.told(a, what), plain.told(a, what));
    }

    private void count(int what) {
        due("count(" + what + ")", x.count(what), plain.count(what));
    }

    private void constant() {
        due("constant()", x.constant(), plain.constant());
    }

    private int apply(int a, int b) {
        int want = plain.apply(a, b);
        due("apply" + of(a, b), x.apply(a, b), want);
        return want;
    }

    private void equate(int a, int b) {
        due("equate" + of(a, b), x.equate(a, b), plain.equate(a, b));
    }

    private void back(int n) {
        due("back(" + n + ")", x.back(n), plain.back(n));
    }

    private void differ(int a, int b) {
        due("differ" + of(a, b), x.differ(a, b), plain.differ(a, b));
    }

    private void clear() {
        due("clear()", x.clear(), plain.clear());
    }

    private int any() {
        int n = plain.count(0);
        return random.nextInt(60) == 0 ? random.nextInt(3) - 1 + n * random.nextInt(2) : random.nextInt(Math.max(n, 1));
    }

    private int alike(int a) {
        for (int i = 0; i < 30; i++) {
            int b = any();
            if (b != a && plain.same(a, b) == 1) {
                return b;
            }
        }
        return any();
    }

    private static String of(int a, int b) {
        return "(" + a + ", " + b + ")";
    }

    private void due(String call, int got, int want) {
        calls++;
        if (calls > MOST_CALLS) {
            throw new IllegalStateException("a run is too long: " + name);
        }
        CHECK.due(name + ", call " + calls + ": " + call, got, want);
    }
}
