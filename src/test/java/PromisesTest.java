/** Each promise of the document by hand: ordinary inputs, the edges it names, and wrong inputs. */
public final class PromisesTest {
    private static final int NONE = SameTerms.NONE, BAD = SameTerms.BAD, FULL = SameTerms.FULL;
    private static final int[] NO_TERMS = {-1, -2, Integer.MIN_VALUE, 250, 251, 1000, Integer.MAX_VALUE};
    private static final Check CHECK = new Check();

    private PromisesTest() {
    }

    public static void main(String[] args) {
        constants();
        newObject();
        clear();
        constant();
        apply();
        applyWhenFull();
        equate();
        back();
        differ();
        clash();
        same();
        leastAndSize();
        since();
        round();
        longRounds();
        why();
        whyFromTheLatest();
        whyOfManyEquations();
        gives();
        givesWithAllBits();
        told();
        count();
        wrongTerms();
        laterApplicationsCount();
        evenlySpacedApplications();
        answersChangeNothing();
        CHECK.end();
    }

    private static void due(String call, long got, long want) {
        CHECK.due(call, got, want);
    }

    private static SameTerms withConstants(int n) {
        SameTerms x = new SameTerms();
        for (int i = 0; i < n; i++) {
            x.constant();
        }
        return x;
    }

    private static void constants() {
        due("NONE", NONE, -1);
        due("BAD", BAD, -2);
        due("FULL", FULL, -3);
    }

    private static void newObject() {
        SameTerms x = new SameTerms();
        for (int what = 0; what <= 4; what++) {
            due("1: count(" + what + ")", x.count(what), 0);
        }
        due("1: clash()", x.clash(), NONE);
        due("1: same(0, 0)", x.same(0, 0), BAD);
        due("1: least(0)", x.least(0), BAD);
        due("1: gives(0, 0, 0)", x.gives(0, 0, 0), BAD);
        due("1: back(0)", x.back(0), 0);
        due("1: back(1)", x.back(1), BAD);
        for (int what = 0; what <= 5; what++) {
            due("1: told(0, " + what + ")", x.told(0, what), NONE);
        }
        SameTerms y = withConstants(2);
        due("1: another object", y.count(0), 2);
        due("1: objects share nothing", x.count(0), 0);
    }

    private static void clear() {
        SameTerms x = withConstants(3);
        x.apply(0, 1);
        x.equate(0, 1);
        x.differ(0, 1);
        due("2: clash() before", x.clash(), 0);
        due("2: count(4) before", x.count(4), 0);
        due("2: clear()", x.clear(), 4);
        due("2: clear() again", x.clear(), 0);
        for (int what = 0; what <= 4; what++) {
            due("2: count(" + what + ") after", x.count(what), 0);
        }
        due("2: clash() after", x.clash(), NONE);
        due("2: told(0, 2) after", x.told(0, 2), NONE);
        due("2: told(0, 4) after", x.told(0, 4), NONE);
        due("2: constant() after", x.constant(), 0);
        due("2: constant() after", x.constant(), 1);
        due("2: same(0, 1) after", x.same(0, 1), 0);
        due("2: apply(0, 1) is new", x.apply(0, 1), 2);
        due("2: apply(0, 0) is new", x.apply(0, 0), 3);
        due("2: equate starts at 0", x.equate(0, 1), 0);
        due("2: differ starts at 0", x.differ(0, 1), 0);
        due("2: size(2)", x.size(2), 2);
    }

    private static void constant() {
        SameTerms x = new SameTerms();
        for (int i = 0; i < 250; i++) {
            due("3: constant()", x.constant(), i);
        }
        due("3: constant() at 250", x.constant(), FULL);
        due("3: constant() at 250 again", x.constant(), FULL);
        due("3: count(0)", x.count(0), 250);
        due("3: count(3)", x.count(3), 250);
        due("3: same(0, 249)", x.same(0, 249), 0);
        due("3: least(249)", x.least(249), 249);
        due("3: clear()", x.clear(), 250);
        due("3: constant() after clear()", x.constant(), 0);
    }

    private static void apply() {
        SameTerms x = withConstants(2);
        due("4: apply(0, 1)", x.apply(0, 1), 2);
        due("4: apply(1, 0)", x.apply(1, 0), 3);
        due("4: apply(0, 1) again", x.apply(0, 1), 2);
        due("4: apply(1, 0) again", x.apply(1, 0), 3);
        due("4: apply(0, 0)", x.apply(0, 0), 4);
        due("4: apply(2, 2)", x.apply(2, 2), 5);
        due("4: apply(2, 2) again", x.apply(2, 2), 5);
        due("4: apply(0, 6)", x.apply(0, 6), BAD);
        due("4: apply(6, 0)", x.apply(6, 0), BAD);
        due("4: apply(-1, -1)", x.apply(-1, -1), BAD);
        due("4: count(0)", x.count(0), 6);
        x.equate(0, 1);
        due("4: an equal pair is another pair", x.apply(1, 1), 6);
        due("4: it is the same as its like", x.same(6, 4), 1);
    }

    private static void applyWhenFull() {
        SameTerms x = withConstants(2);
        for (int t = 2; t < 250; t++) {
            due("4: apply(0, " + (t - 1) + ")", x.apply(0, t - 1), t);
        }
        due("4: a new pair at 250", x.apply(1, 1), FULL);
        due("4: a known pair at 250", x.apply(0, 248), 249);
        due("4: a known pair at 250", x.apply(0, 1), 2);
        due("4: the last one as a part", x.apply(249, 249), FULL);
        due("4: no such term at 250", x.apply(250, 0), BAD);
        due("4: no such term at 250", x.apply(0, 250), BAD);
        due("4: count(0)", x.count(0), 250);
        due("4: equate(0, 249)", x.equate(0, 249), 0);
        due("4: count(3)", x.count(3), 249);
    }

    private static void equate() {
        SameTerms x = withConstants(3);
        due("5: equate(0, 3)", x.equate(0, 3), BAD);
        due("5: equate(3, 0)", x.equate(3, 0), BAD);
        due("5: equate(-1, 0)", x.equate(-1, 0), BAD);
        for (int i = 0; i < 60; i++) {
            due("5: equate(0, 1)", x.equate(0, 1), i);
        }
        due("5: equate at 60", x.equate(0, 1), FULL);
        due("5: equate at 60", x.equate(1, 2), FULL);
        due("5: no such term at 60", x.equate(0, 3), BAD);
        due("5: count(1)", x.count(1), 60);
        due("5: a refused one says nothing", x.same(1, 2), 0);
        due("5: back(1)", x.back(1), 59);
        due("5: room again", x.equate(1, 2), 59);
        due("5: same(0, 2)", x.same(0, 2), 1);
        due("5: since(0, 2)", x.since(0, 2), 60);
    }

    private static void back() {
        SameTerms x = withConstants(4);
        x.equate(0, 1);
        x.equate(1, 2);
        x.equate(2, 3);
        x.differ(0, 3);
        due("6: back(-1)", x.back(-1), BAD);
        due("6: back(least int)", x.back(Integer.MIN_VALUE), BAD);
        due("6: back(4)", x.back(4), BAD);
        due("6: back(0)", x.back(0), 3);
        due("6: same(0, 3)", x.same(0, 3), 1);
        due("6: back(1)", x.back(1), 2);
        due("6: same(0, 3)", x.same(0, 3), 0);
        due("6: same(0, 2)", x.same(0, 2), 1);
        due("6: told(2, 2)", x.told(2, 2), NONE);
        due("6: the differences stay", x.count(2), 1);
        due("6: the terms stay", x.count(0), 4);
        due("6: back(2)", x.back(2), 0);
        due("6: back(1) of none", x.back(1), BAD);
        due("6: back(0) of none", x.back(0), 0);
        due("6: count(3)", x.count(3), 4);
        due("6: equate(2, 3)", x.equate(2, 3), 0);
        due("6: told(0, 2)", x.told(0, 2), 2);
        due("6: same(0, 1)", x.same(0, 1), 0);
    }

    private static void differ() {
        SameTerms x = withConstants(2);
        due("7: differ(0, 2)", x.differ(0, 2), BAD);
        due("7: differ(2, 0)", x.differ(2, 0), BAD);
        due("7: differ(-1, 0)", x.differ(-1, 0), BAD);
        for (int i = 0; i < 30; i++) {
            due("7: differ(0, 1)", x.differ(0, 1), i);
        }
        due("7: differ at 30", x.differ(0, 1), FULL);
        due("7: a refused one says nothing", x.differ(0, 0), FULL);
        due("7: clash()", x.clash(), NONE);
        due("7: no such term at 30", x.differ(0, 2), BAD);
        due("7: count(2)", x.count(2), 30);
        due("7: nothing becomes the same", x.count(3), 2);
        due("7: clear()", x.clear(), 2);
        due("7: constant()", x.constant(), 0);
        due("7: room again", x.differ(0, 0), 0);
    }

    private static void clash() {
        SameTerms x = withConstants(4);
        int p = x.apply(0, 1);
        int q = x.apply(0, 2);
        due("8: none told", x.clash(), NONE);
        x.differ(0, 1);
        x.differ(q, p);
        x.differ(1, 2);
        due("8: none clashes", x.clash(), NONE);
        x.equate(1, 3);
        due("8: none clashes yet", x.clash(), NONE);
        x.equate(3, 2);
        due("8: by what follows", x.clash(), 1);
        x.equate(0, 3);
        due("8: the first one", x.clash(), 0);
        x.back(1);
        due("8: back again", x.clash(), 1);
        x.back(2);
        due("8: none is left", x.clash(), NONE);
        due("8: differ(3, 3)", x.differ(3, 3), 3);
        due("8: one with itself", x.clash(), 3);
    }

    private static void same() {
        SameTerms x = withConstants(5);
        due("9: same(2, 2)", x.same(2, 2), 1);
        x.equate(0, 1);
        due("9: as told", x.same(0, 1), 1);
        due("9: the other way round", x.same(1, 0), 1);
        x.equate(2, 1);
        due("9: by a third one", x.same(0, 2), 1);
        due("9: not the same", x.same(0, 3), 0);
        int p = x.apply(0, 3);
        int q = x.apply(2, 4);
        due("9: first terms alone", x.same(p, q), 0);
        x.equate(3, 4);
        due("9: both terms", x.same(p, q), 1);
        int r = x.apply(3, 0);
        due("9: crosswise is another", x.same(p, r), 0);
        SameTerms y = withConstants(3);
        int a = y.apply(0, 1);
        int b = y.apply(0, 2);
        y.equate(a, b);
        due("9: parts do not follow from wholes", y.same(1, 2), 0);
    }

    private static void leastAndSize() {
        SameTerms x = withConstants(5);
        x.equate(4, 3);
        x.equate(3, 1);
        due("10: least(4)", x.least(4), 1);
        due("10: least(1)", x.least(1), 1);
        due("10: least(0)", x.least(0), 0);
        due("10: least(2)", x.least(2), 2);
        due("11: size(4)", x.size(4), 3);
        due("11: size(1)", x.size(1), 3);
        due("11: size(0)", x.size(0), 1);
        x.equate(0, 2);
        x.equate(2, 4);
        due("10: least(3)", x.least(3), 0);
        due("11: size(3)", x.size(3), 5);
        x.back(1);
        due("10: least(3) after back", x.least(3), 1);
        due("11: size(3) after back", x.size(3), 3);
        due("10: least(5)", x.least(5), BAD);
        due("11: size(5)", x.size(5), BAD);
        due("10: least(-1)", x.least(-1), BAD);
        due("11: size(-1)", x.size(-1), BAD);
    }

    private static void since() {
        SameTerms x = withConstants(5);
        int p = x.apply(0, 1);
        int q = x.apply(0, 2);
        x.equate(3, 4);
        x.equate(1, 3);
        x.equate(2, 4);
        x.equate(1, 2);
        due("12: since(1, 1)", x.since(1, 1), 0);
        due("12: since(3, 4)", x.since(3, 4), 1);
        due("12: since(1, 4)", x.since(1, 4), 2);
        due("12: since(1, 2)", x.since(1, 2), 3);
        due("12: since(2, 1)", x.since(2, 1), 3);
        due("12: since(p, q)", x.since(p, q), 3);
        due("12: since(0, 1)", x.since(0, 1), NONE);
        x.back(2);
        due("12: since(p, q) after back", x.since(p, q), NONE);
        due("12: since(1, 4) after back", x.since(1, 4), 2);
    }

    private static void round() {
        SameTerms x = withConstants(4);
        int p = x.apply(0, 1);
        int q = x.apply(0, 2);
        int pp = x.apply(p, p);
        int qq = x.apply(q, q);
        int pq = x.apply(p, q);
        due("13: round(1, 1) with no equations", x.round(1, 1), 0);
        due("13: round(1, 2) with no equations", x.round(1, 2), NONE);
        x.equate(1, 3);
        x.equate(3, 2);
        due("13: by steps of equations", x.round(1, 2), 0);
        due("13: one within", x.round(p, q), 1);
        due("13: two within", x.round(pp, qq), 2);
        due("13: two within, of one part", x.round(pp, pq), 2);
        due("13: not the same", x.round(p, pp), NONE);
        due("13: of one with itself", x.round(pp, pp), 0);
        due("17: count(4)", x.count(4), 2);
        x.equate(q, 0);
        due("13: a step of round 1 and an equation", x.round(p, 0), 1);
        due("13: two steps of round 2", x.round(pp, qq), 2);
        x.equate(p, 0);
        due("13: equations make it less", x.round(p, q), 0);
        due("13: and within it too", x.round(pp, qq), 1);
        due("17: count(4) is less then", x.count(4), 1);
    }

    // 123 applications over each of two constants: each is one round later than the one within it.
    private static void longRounds() {
        SameTerms x = withConstants(3);
        int a = 1;
        int b = 2;
        for (int i = 0; i < 123; i++) {
            a = x.apply(0, a);
            b = x.apply(0, b);
        }
        due("13: 249 terms", x.count(0), 249);
        x.equate(1, 2);
        due("13: round of the outermost", x.round(a, b), 123);
        due("13: round of those within", x.round(a - 2, b - 2), 122);
        due("17: count(4)", x.count(4), 123);
        due("17: count(3)", x.count(3), 125);
        due("12: since", x.since(a, b), 1);
        due("14: why", x.why(a, b, NONE), 1);
        due("15: gives(1)", x.gives(1, a, b), 1);
        due("15: gives(0)", x.gives(0, a, b), 0);
        x.equate(2, a);
        due("11: the ends of both", x.size(1), 4);
        due("10: the least of them", x.least(b), 1);
        x.equate(x.apply(0, 2), 1);
        due("11: a ring of one, which all fall into", x.size(1), 248);
    }

    private static void why() {
        SameTerms x = withConstants(5);
        int p = x.apply(1, 3);
        int q = x.apply(2, 4);
        x.equate(0, 1);
        x.equate(1, 2);
        x.equate(0, 0);
        x.equate(3, 4);
        due("14: how many", x.why(p, q, NONE), 2);
        due("14: the first", x.why(p, q, 0), 1);
        due("14: the second", x.why(p, q, 1), 3);
        due("14: no third", x.why(p, q, 2), NONE);
        due("14: far beyond", x.why(p, q, Integer.MAX_VALUE), NONE);
        due("14: of one", x.why(p, p, NONE), 0);
        due("14: of one, the first", x.why(p, p, 0), NONE);
        due("14: not the same", x.why(0, 3, NONE), NONE);
        due("14: not the same", x.why(0, 3, 0), NONE);
        due("14: k below NONE", x.why(p, q, -2), BAD);
        due("14: k below NONE, not the same", x.why(0, 3, -2), BAD);
        due("14: k below NONE", x.why(p, q, Integer.MIN_VALUE), BAD);
        due("14: no such term", x.why(0, 7, NONE), BAD);
        x.back(1);
        due("14: after back", x.why(p, q, NONE), NONE);
        x.equate(1, 0);
        x.equate(4, 3);
        due("14: after other equations", x.why(p, q, NONE), 2);
        due("14: the second of these", x.why(p, q, 1), 4);
        due("14: the other way round", x.why(q, p, 0), 1);
        due("14: of another with the second", x.why(0, p, NONE), NONE);
        due("14: of two", x.why(0, 2, NONE), 2);
        due("14: of another with the second", x.why(1, 2, NONE), 1);
        due("14: of the first with another", x.why(1, 0, NONE), 1);
    }

    private static void whyFromTheLatest() {
        SameTerms x = withConstants(4);
        x.equate(0, 1);
        x.equate(1, 2);
        x.equate(2, 3);
        x.equate(0, 3);
        due("14: the latest goes first", x.why(0, 3, NONE), 3);
        due("14: the first stays", x.why(0, 3, 0), 0);
        due("14: the second stays", x.why(0, 3, 1), 1);
        due("14: the third stays", x.why(0, 3, 2), 2);
        x.clear();
        for (int i = 0; i < 4; i++) {
            x.constant();
        }
        x.equate(0, 1);
        x.equate(1, 2);
        x.equate(0, 2);
        x.equate(2, 3);
        due("14: the latest can't go", x.why(0, 3, NONE), 3);
        due("14: the third went", x.why(0, 3, 2), 3);
        x.clear();
        for (int i = 0; i < 4; i++) {
            x.constant();
        }
        x.equate(0, 1);
        x.equate(0, 2);
        x.equate(2, 3);
        x.equate(1, 2);
        due("14: which also gives the third", x.why(1, 3, NONE), 3);
        due("14: as since says", x.since(1, 3), 3);
        due("14: all but the latest", x.why(1, 3, 2), 2);
    }

    private static void whyOfManyEquations() {
        SameTerms x = withConstants(61);
        for (int i = 0; i < 60; i++) {
            x.equate(59 - i, 60 - i);
        }
        due("14: all 60", x.why(0, 60, NONE), 60);
        due("14: the last of 60", x.why(0, 60, 59), 59);
        due("14: no more than 60", x.why(0, 60, 60), NONE);
        due("14: the latest alone", x.why(0, 1, 0), 59);
        due("12: since(0, 60)", x.since(0, 60), 60);
        due("12: since(60, 59)", x.since(60, 59), 1);
        due("12: since(1, 60)", x.since(1, 60), 59);
    }

    private static void gives() {
        SameTerms x = withConstants(5);
        int p = x.apply(1, 3);
        int q = x.apply(2, 4);
        due("15: the empty set, one", x.gives(0, 1, 1), 1);
        due("15: the empty set, two", x.gives(0, 1, 2), 0);
        due("15: a bit of no equation", x.gives(1, 1, 1), BAD);
        x.equate(1, 0);
        x.equate(0, 2);
        x.equate(3, 4);
        due("15: all", x.gives(7, p, q), 1);
        due("15: without the first", x.gives(6, p, q), 0);
        due("15: without the second", x.gives(5, p, q), 0);
        due("15: without the third", x.gives(3, p, q), 0);
        due("15: the other way round", x.gives(7, q, p), 1);
        due("15: one equation", x.gives(4, 4, 3), 1);
        due("15: a bit too high", x.gives(8, p, q), BAD);
        due("15: a bit too high among others", x.gives(15, p, q), BAD);
        due("15: the highest bit", x.gives(Long.MIN_VALUE, p, q), BAD);
        due("15: a bit above the lower half", x.gives(1L << 32, p, q), BAD);
        due("15: no such term", x.gives(7, p, 7), BAD);
        due("15: no such term", x.gives(7, -1, q), BAD);
        x.back(1);
        due("15: a bit that went", x.gives(4, 3, 4), BAD);
        due("15: two that are left", x.gives(3, 1, 2), 1);
        due("15: the state is as it was", x.same(p, q), 0);
    }

    private static void givesWithAllBits() {
        SameTerms x = withConstants(61);
        for (int i = 0; i < 60; i++) {
            x.equate(i, i + 1);
        }
        long all = (1L << 60) - 1;
        due("15: all 60 bits", x.gives(all, 0, 60), 1);
        due("15: without bit 59", x.gives(all >>> 1, 0, 60), 0);
        due("15: without bit 59", x.gives(all >>> 1, 0, 59), 1);
        due("15: bit 59 alone", x.gives(1L << 59, 59, 60), 1);
        due("15: without bit 31", x.gives(all & ~(1L << 31), 0, 60), 0);
        for (int bit = 60; bit < 64; bit++) {
            due("15: bit " + bit, x.gives(1L << bit, 0, 60), BAD);
        }
        due("15: all 64 bits", x.gives(-1, 0, 60), BAD);
    }

    private static void told() {
        SameTerms x = withConstants(3);
        x.apply(1, 2);
        x.equate(2, 0);
        x.equate(3, 1);
        x.differ(1, 3);
        due("16: told(3, 0)", x.told(3, 0), 1);
        due("16: told(3, 1)", x.told(3, 1), 2);
        due("16: a constant", x.told(0, 0), NONE);
        due("16: a constant", x.told(0, 1), NONE);
        due("16: told(0, 2)", x.told(0, 2), 2);
        due("16: told(0, 3)", x.told(0, 3), 0);
        due("16: told(1, 2)", x.told(1, 2), 3);
        due("16: told(1, 3)", x.told(1, 3), 1);
        due("16: told(0, 4)", x.told(0, 4), 1);
        due("16: told(0, 5)", x.told(0, 5), 3);
        due("16: no such term", x.told(4, 0), NONE);
        due("16: no such equation", x.told(2, 2), NONE);
        due("16: no such equation", x.told(2, 3), NONE);
        due("16: no such difference", x.told(1, 4), NONE);
        due("16: no such difference", x.told(1, 5), NONE);
        for (int what = 0; what <= 5; what++) {
            for (int a : NO_TERMS) {
                due("16: told(" + a + ", " + what + ")", x.told(a, what), NONE);
            }
        }
        for (int what : new int[] {-1, 6, Integer.MIN_VALUE, Integer.MAX_VALUE}) {
            due("16: told(0, " + what + ")", x.told(0, what), BAD);
            due("16: told(99, " + what + ")", x.told(99, what), BAD);
        }
    }

    private static void count() {
        SameTerms x = withConstants(4);
        int p = x.apply(0, 1);
        int q = x.apply(0, 2);
        x.apply(p, q);
        x.equate(1, 2);
        x.equate(1, 2);
        x.differ(0, 1);
        x.differ(0, 1);
        x.differ(0, 1);
        due("17: count(0)", x.count(0), 7);
        due("17: count(1)", x.count(1), 2);
        due("17: count(2)", x.count(2), 3);
        due("17: count(3)", x.count(3), 5);
        due("17: count(4)", x.count(4), 1);
        for (int what : new int[] {-1, 5, Integer.MIN_VALUE, Integer.MAX_VALUE}) {
            due("17: count(" + what + ")", x.count(what), BAD);
        }
        x.equate(p, q);
        due("17: count(4) when all are told", x.count(4), 0);
    }

    private static void wrongTerms() {
        SameTerms x = withConstants(2);
        x.equate(0, 1);
        for (int bad : NO_TERMS) {
            for (int i = 0; i < 2; i++) {
                int a = i == 0 ? bad : 0;
                int b = i == 0 ? 0 : bad;
                String of = "(" + a + ", " + b + ")";
                due("4: apply" + of, x.apply(a, b), BAD);
                due("5: equate" + of, x.equate(a, b), BAD);
                due("7: differ" + of, x.differ(a, b), BAD);
                due("9: same" + of, x.same(a, b), BAD);
                due("12: since" + of, x.since(a, b), BAD);
                due("13: round" + of, x.round(a, b), BAD);
                due("14: why" + of, x.why(a, b, NONE), BAD);
                due("14: why" + of, x.why(a, b, 0), BAD);
                due("15: gives" + of, x.gives(1, a, b), BAD);
            }
            due("10: least(" + bad + ")", x.least(bad), BAD);
            due("11: size(" + bad + ")", x.size(bad), BAD);
        }
        due("wrong inputs change nothing", x.count(0) + x.count(1) + x.count(2), 3);
    }

    private static void laterApplicationsCount() {
        SameTerms x = withConstants(4);
        x.equate(1, 2);
        x.equate(0, 3);
        due("9: before", x.count(3), 2);
        int p = x.apply(0, 1);
        int q = x.apply(0, 2);
        int r = x.apply(3, 2);
        due("9: same(p, q)", x.same(p, q), 1);
        due("12: since(p, q)", x.since(p, q), 1);
        due("12: since(p, r)", x.since(p, r), 2);
        due("13: round(p, r)", x.round(p, r), 1);
        due("14: why(p, r)", x.why(p, r, NONE), 2);
        due("14: why(p, q)", x.why(p, q, 0), 0);
        due("14: why(q, r)", x.why(q, r, 0), 1);
        due("15: gives(1, p, q)", x.gives(1, p, q), 1);
        due("15: gives(1, p, r)", x.gives(1, p, r), 0);
        due("17: count(3)", x.count(3), 3);
    }

    // Pairs with even spaces are those that a program which sorts by sums or remainders takes for alike.
    private static void evenlySpacedApplications() {
        for (int space = 1; space <= 6; space++) {
            for (int moved = 0; moved < 8; moved++) {
                for (int found = 0; found < 8; found++) {
                    spacedApplications(space, moved, found, false);
                    spacedApplications(space, moved, found, true);
                }
            }
        }
    }

    private static void spacedApplications(int space, int moved, int found, boolean down) {
        SameTerms x = withConstants(60);
        for (int i = 0; i < 8; i++) {
            x.apply(i, down ? 56 - space * i : 10 + space * i);
        }
        int like = x.apply(59, down ? 56 - space * found : 10 + space * found);
        x.equate(moved, 58);
        x.equate(59, found);
        String of = "(" + (60 + found) + ", " + like + "), space " + space + ", " + moved + " is 58";
        due("9: same" + of, x.same(60 + found, like), 1);
        due("12: since" + of, x.since(60 + found, like), 2);
        due("13: round" + of, x.round(60 + found, like), 1);
        due("17: count(3)" + of, x.count(3), 66);
        due("15: gives" + of, x.gives(1, 60 + found, like), 0);
    }

    private static void answersChangeNothing() {
        SameTerms x = withConstants(4);
        x.equate(0, 1);
        x.equate(1, 2);
        x.equate(2, 3);
        for (int i = 0; i < 3; i++) {
            due("9: same", x.same(0, 3), 1);
            due("15: gives", x.gives(1, 0, 3), 0);
            due("12: since", x.since(0, 3), 3);
            due("14: why", x.why(0, 3, 2), 2);
            due("14: why of others", x.why(0, 1, NONE), 1);
            due("13: round", x.round(0, 3), 0);
            due("11: size", x.size(0), 4);
        }
        due("17: count(1)", x.count(1), 3);
    }
}
