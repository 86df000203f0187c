/** Each sentence with a boundary case in ROUND, REASONS and promises 8 to 17, in a test of its own. */
public final class AskingBoundariesTest {
    private static final int NONE = SameTerms.NONE, BAD = SameTerms.BAD, FULL = SameTerms.FULL;
    private static final int MIN = Integer.MIN_VALUE, MAX = Integer.MAX_VALUE;
    private static final int[] NO_KIND_OF_TOLD = {MIN, MIN + 1, -3, -2, -1, 6, 7, 8, 256, MAX - 1, MAX};
    private static final int[] NO_KIND_OF_COUNT = {MIN, MIN + 1, -3, -2, -1, 5, 6, 256, MAX - 1, MAX};

    private AskingBoundariesTest() {
    }

    public static void main(String[] args) {
        Sentences each = new Sentences();
        clash(each);
        classes(each);
        since(each);
        round(each);
        why(each);
        gives(each);
        told(each);
        count(each);
        each.end();
    }

    private static void clash(Sentences each) {
        each.holds("8: the first DIFFERENCE", AskingBoundariesTest::firstClash);
        each.holds("8: the first DIFFERENCE, the last of 30", AskingBoundariesTest::lastClash);
        each.holds("8: NONE: there is none such, none told", AskingBoundariesTest::clashOfNone);
        each.holds("8: NONE: there is none such, of 30", AskingBoundariesTest::noClashOfThirty);
    }

    private static void classes(Sentences each) {
        each.holds("9: 1 or 0, of the first and the last", AskingBoundariesTest::sameAtTheEnds);
        each.badTerms("9: BAD", (x, a, b) -> x.same(a, b));
        each.holds("10: the least TERM, of one", AskingBoundariesTest::leastOfOne);
        each.holds("10: the least TERM, of a few told in any order", AskingBoundariesTest::leastOfFew);
        each.holds("10: the least TERM, of 250", AskingBoundariesTest::leastOfAll);
        each.badTerm("10: BAD", (x, a) -> x.least(a));
        each.holds("11: how many TERMS, one", AskingBoundariesTest::sizeOfOne);
        each.holds("11: how many TERMS, 250", AskingBoundariesTest::sizeOfAll);
        each.badTerm("11: BAD", (x, a) -> x.size(a));
    }

    private static void since(Sentences each) {
        each.holds("12: none of them is enough, for one", AskingBoundariesTest::sinceOfOne);
        each.holds("12: how many of the first, up to 60", AskingBoundariesTest::sinceOfAll);
        each.holds("12: at least", AskingBoundariesTest::sinceAtLeast);
        each.holds("12: NONE: they are not THE SAME", AskingBoundariesTest::sinceOfOthers);
        each.badTerms("12: BAD", (x, a, b) -> x.since(a, b));
    }

    private static void round(Sentences each) {
        each.holds("Terms: ROUND 0, if they are one", AskingBoundariesTest::roundOfOne);
        each.holds("Terms: ROUND 0, EQUATIONS alone, step by step", AskingBoundariesTest::roundByEquations);
        each.holds("Terms: ROUND r and 1, if it is not r or less", AskingBoundariesTest::roundNotLess);
        each.holds("Terms: ROUND r and 1, each step of r or less", AskingBoundariesTest::roundByOne);
        each.holds("13: ROUND, the greatest that 250 TERMS can have", AskingBoundariesTest::greatestRound);
        each.holds("13: ROUND, when as much as can be follows in one", AskingBoundariesTest::fullRound);
        each.holds("13: NONE: they are not THE SAME", AskingBoundariesTest::roundOfOthers);
        each.badTerms("13: BAD", (x, a, b) -> x.round(a, b));
    }

    private static void why(Sentences each) {
        each.holds("Terms: REASONS: from the latest one on", AskingBoundariesTest::fromTheLatest);
        each.holds("14: how many (k = NONE), none", AskingBoundariesTest::noReasons);
        each.holds("14: how many (k = NONE), up to 60", AskingBoundariesTest::sixtyReasons);
        each.holds("14: the k-th, by their numbers, from 0 on", AskingBoundariesTest::reasonsByNumber);
        each.holds("14: NONE: there is none such", AskingBoundariesTest::noSuchReason);
        each.holds("14: NONE: they are not THE SAME", AskingBoundariesTest::reasonsOfOthers);
        each.badTerms("14: BAD: no such TERMS, how many", (x, a, b) -> x.why(a, b, NONE));
        each.badTerms("14: BAD: no such TERMS, the first", (x, a, b) -> x.why(a, b, 0));
        each.badTerms("14: BAD: no such TERMS, far on", (x, a, b) -> x.why(a, b, MAX));
        each.holds("14: BAD: k below NONE", AskingBoundariesTest::reasonBelowNone);
    }

    private static void gives(Sentences each) {
        int[] all = new int[61];
        for (int n = 0; n <= 60; n++) {
            all[n] = n;
        }
        each.holds("15: the empty set", AskingBoundariesTest::givesOfNone);
        each.holds("15: the highest bit that there is", all, AskingBoundariesTest::highestBit);
        each.holds("15: BAD: bits of no EQUATION", all, AskingBoundariesTest::bitsOfNone);
        each.holds("15: BAD: bits of no EQUATION, after back", all, AskingBoundariesTest::bitsAfterBack);
        each.badTerms("15: BAD: no such TERMS", (x, a, b) -> x.gives(0, a, b));
        each.badTerms("15: BAD: no such TERMS, and bits of none", (x, a, b) -> x.gives(-1, a, b));
    }

    private static void told(Sentences each) {
        int[] terms = {1, 2, 249, 250};
        each.holds("16: the first and the second of an APPLICATION", AskingBoundariesTest::toldOfLastApplication);
        each.holds("16: NONE: a CONSTANT", AskingBoundariesTest::toldOfConstants);
        each.holds("16: NONE: no such TERM", terms, AskingBoundariesTest::toldOfNoTerm);
        each.holds("16: of EQUATION a", new int[] {1, 2, 59, 60}, AskingBoundariesTest::toldOfEquations);
        each.holds("16: NONE: no such EQUATION", new int[] {0, 1, 59, 60}, AskingBoundariesTest::toldOfNoEquation);
        each.holds("16: of DIFFERENCE a", new int[] {1, 2, 29, 30}, AskingBoundariesTest::toldOfDifferences);
        each.holds("16: NONE: no such DIFFERENCE", new int[] {0, 1, 29, 30}, AskingBoundariesTest::toldOfNoDifference);
        each.holds("16: NONE: an EQUATION that went", AskingBoundariesTest::toldAfterBack);
        each.holds("16: BAD: another what", AskingBoundariesTest::toldOfAnother);
        each.holds("16: BAD, before that", AskingBoundariesTest::toldBadBeforeNone);
    }

    private static void count(Sentences each) {
        each.holds("17: with nothing in it", AskingBoundariesTest::countOfNone);
        each.holds("17: when all is full", AskingBoundariesTest::countOfAll);
        each.holds("17: CLASSES, as many as TERMS", AskingBoundariesTest::countOfClasses);
        each.holds("17: the greatest ROUND", AskingBoundariesTest::countOfRounds);
        each.holds("17: BAD: another what", AskingBoundariesTest::countOfAnother);
    }

    private static void firstClash(Run r) {
        r.constants(3);
        r.differ(30, 0, 1);
        r.equate(1, 1, 0);
        r.due("of 30 that clash", r.ask().clash(), 0);
        r.due("back(1)", r.ask().back(1), 0);
        r.due("after back", r.ask().clash(), NONE);
    }

    private static void lastClash(Run r) {
        r.constants(3);
        r.differ(29, 0, 1);
        r.due("the 30th", r.ask().differ(1, 2), 29);
        r.equate(1, 2, 1);
        r.due("the last alone", r.ask().clash(), 29);
        r.equate(1, 0, 2);
        r.due("the first before it", r.ask().clash(), 0);
        r.due("back(1)", r.ask().back(1), 1);
        r.due("the last alone again", r.ask().clash(), 29);
        r.due("a 31st", r.ask().differ(0, 0), FULL);
        r.due("back(1)", r.ask().back(1), 0);
        r.due("a refused one does not clash", r.ask().clash(), NONE);
    }

    private static void clashOfNone(Run r) {
        r.ready();
        r.due("no terms", r.ask().clash(), NONE);
        r.constants(2);
        r.equate(60, 0, 1);
        r.due("no differences", r.ask().clash(), NONE);
    }

    private static void noClashOfThirty(Run r) {
        r.constants(3);
        r.differ(30, 0, 1);
        r.due("no equation", r.ask().clash(), NONE);
        r.equate(60, 1, 2);
        r.due("60 others", r.ask().clash(), NONE);
        r.due("clear()", r.ask().clear(), 3);
        r.constants(2);
        r.equate(1, 0, 1);
        r.due("the differences went too", r.ask().clash(), NONE);
    }

    private static void sameAtTheEnds(Run r) {
        r.constants(250);
        r.due("same(0, 0)", r.ask().same(0, 0), 1);
        r.due("same(249, 249)", r.ask().same(249, 249), 1);
        r.due("same(0, 249)", r.ask().same(0, 249), 0);
        r.equate(1, 249, 0);
        r.due("same(0, 249) told", r.ask().same(0, 249), 1);
        r.due("same(249, 0) told", r.ask().same(249, 0), 1);
        r.due("same(0, 248)", r.ask().same(0, 248), 0);
    }

    private static void leastOfOne(Run r) {
        r.constants(250);
        r.due("least(0)", r.ask().least(0), 0);
        r.due("least(249)", r.ask().least(249), 249);
        r.equate(1, 249, 248);
        r.due("least(249) of two", r.ask().least(249), 248);
        r.due("least(247) of one", r.ask().least(247), 247);
        r.due("back(1)", r.ask().back(1), 0);
        r.due("least(249) after back", r.ask().least(249), 249);
    }

    private static void leastOfFew(Run r) {
        r.constants(250);
        r.equate(1, 248, 249);
        r.equate(1, 249, 247);
        r.due("least(249) of three", r.ask().least(249), 247);
        r.equate(1, 0, 249);
        r.due("one more below them, told first", r.ask().least(247), 0);
        r.due("back(1)", r.ask().back(1), 2);
        r.equate(1, 249, 0);
        r.due("one more below them, told second", r.ask().least(247), 0);
        r.equate(1, 1, 2);
        r.equate(1, 2, 249);
        r.due("two more above it", r.ask().least(2), 0);
        r.due("it itself", r.ask().least(0), 0);
        r.due("one apart", r.ask().least(3), 3);
    }

    private static void leastOfAll(Run r) {
        r.tower(250);
        r.equate(1, 1, 0);
        r.due("least(249)", r.ask().least(249), 0);
        r.due("least(0)", r.ask().least(0), 0);
    }

    private static void sizeOfOne(Run r) {
        r.constants(250);
        r.due("size(0)", r.ask().size(0), 1);
        r.due("size(249)", r.ask().size(249), 1);
        r.equate(1, 249, 249);
        r.due("size(249), told to be itself", r.ask().size(249), 1);
        r.equate(1, 0, 249);
        r.due("size(249) of two", r.ask().size(249), 2);
        r.due("size(0) of two", r.ask().size(0), 2);
        r.due("size(1)", r.ask().size(1), 1);
        r.due("back(1)", r.ask().back(1), 1);
        r.due("size(249) after back", r.ask().size(249), 1);
    }

    private static void sizeOfAll(Run r) {
        r.tower(250);
        r.equate(1, 0, 1);
        r.due("size(0)", r.ask().size(0), 250);
        r.due("size(249)", r.ask().size(249), 250);
        r.due("back(1)", r.ask().back(1), 0);
        r.due("size(0) after back", r.ask().size(0), 1);
        r.due("equate(248, 249)", r.ask().equate(248, 249), 0);
        r.due("size(249) then", r.ask().size(249), 2);
    }

    private static void sinceOfOne(Run r) {
        r.constants(61);
        r.due("with no equation", r.ask().since(60, 60), 0);
        r.chain(60);
        r.due("with 60", r.ask().since(0, 0), 0);
        r.due("with 60, the last", r.ask().since(60, 60), 0);
    }

    private static void sinceOfAll(Run r) {
        r.constants(61);
        r.chain(60);
        for (int n = 1; n <= 60; n++) {
            r.due("since(0, " + n + ")", r.ask().since(0, n), n);
        }
        r.due("since(60, 0)", r.ask().since(60, 0), 60);
        r.due("since(59, 60)", r.ask().since(59, 60), 60);
        r.due("since(1, 0)", r.ask().since(1, 0), 1);
        r.due("back(1)", r.ask().back(1), 59);
        r.due("since(0, 60) after back", r.ask().since(0, 60), NONE);
        r.due("since(0, 59) after back", r.ask().since(0, 59), 59);
    }

    private static void sinceAtLeast(Run r) {
        r.constants(3);
        r.equate(1, 0, 0);
        r.equate(58, 0, 1);
        r.equate(1, 2, 1);
        r.due("the first of many that tell it", r.ask().since(0, 1), 2);
        r.due("the last that tells it", r.ask().since(0, 2), 60);
    }

    private static void sinceOfOthers(Run r) {
        r.constants(3);
        r.due("with no equation", r.ask().since(0, 1), NONE);
        r.equate(60, 0, 1);
        r.due("with 60 others", r.ask().since(0, 2), NONE);
        r.due("with 60 others, the other way round", r.ask().since(2, 0), NONE);
        r.due("back(60)", r.ask().back(60), 0);
        r.due("after back", r.ask().since(0, 1), NONE);
    }

    private static void roundOfOne(Run r) {
        r.tower(250);
        r.due("with no equation", r.ask().round(249, 249), 0);
        r.equate(1, 0, 1);
        r.due("the last, with one", r.ask().round(249, 249), 0);
        r.due("the first, with one", r.ask().round(0, 0), 0);
    }

    private static void roundByEquations(Run r) {
        r.constants(61);
        r.chain(60);
        r.due("one step", r.ask().round(60, 59), 0);
        r.due("60 steps", r.ask().round(0, 60), 0);
        r.due("count(4)", r.ask().count(4), 0);
    }

    private static void roundNotLess(Run r) {
        r.constants(3);
        int p = r.ask().apply(0, 1);
        int q = r.ask().apply(0, 2);
        int pp = r.ask().apply(p, p);
        int qq = r.ask().apply(q, q);
        r.equate(1, 1, 2);
        r.due("p and q by their parts", r.ask().round(p, q), 1);
        r.due("pp and qq by their parts", r.ask().round(pp, qq), 2);
        r.equate(1, p, q);
        r.due("p and q are told", r.ask().round(p, q), 0);
        r.due("pp and qq are one round nearer", r.ask().round(pp, qq), 1);
        r.equate(1, qq, pp);
        r.due("pp and qq are told", r.ask().round(pp, qq), 0);
        r.due("back(2)", r.ask().back(2), 1);
        r.due("as before", r.ask().round(pp, qq), 2);
    }

    private static void roundByOne(Run r) {
        r.constants(6);
        int p = r.ask().apply(0, 2);
        int q = r.ask().apply(1, 3);
        int s = r.ask().apply(4, p);
        int t = r.ask().apply(4, q);
        r.equate(1, 0, 1);
        r.equate(1, 2, 3);
        r.equate(1, q, 5);
        r.due("both parts of round 0", r.ask().round(p, q), 1);
        r.due("and an equation after it", r.ask().round(p, 5), 1);
        r.due("one part of round 0, one of 1", r.ask().round(s, t), 2);
        r.due("the other way round", r.ask().round(t, s), 2);
        r.due("count(4)", r.ask().count(4), 2);
    }

    private static void greatestRound(Run r) {
        r.tower(250);
        r.equate(1, 0, 1);
        r.due("of the last two", r.ask().round(248, 249), 248);
        r.due("of the first and the last", r.ask().round(0, 249), 248);
        r.due("of the last two but one", r.ask().round(247, 248), 247);
        r.due("of the second and the third", r.ask().round(1, 2), 1);
        r.due("of the first two", r.ask().round(0, 1), 0);
        r.due("count(4)", r.ask().count(4), 248);
        r.due("since(0, 249)", r.ask().since(0, 249), 1);
        r.due("why(0, 249, 0)", r.ask().why(0, 249, 0), 0);
        r.due("gives(1, 249, 0)", r.ask().gives(1, 249, 0), 1);
        r.due("gives(0, 249, 0)", r.ask().gives(0, 249, 0), 0);
    }

    private static void fullRound(Run r) {
        r.constants(61);
        for (int t = 61; t < 250; t++) {
            r.due("apply", r.ask().apply(t % 61, (t + t / 61) % 61), t);
        }
        r.chain(60);
        r.due("of the first and the last application", r.ask().round(61, 249), 1);
        r.due("size(61)", r.ask().size(61), 189);
        r.due("count(3)", r.ask().count(3), 2);
        r.due("count(4)", r.ask().count(4), 1);
        r.due("gives by all", r.ask().gives((1L << 60) - 1, 61, 249), 1);
        r.due("gives by none", r.ask().gives(0, 61, 249), 0);
    }

    private static void roundOfOthers(Run r) {
        r.constants(3);
        r.due("with no equation", r.ask().round(0, 1), NONE);
        r.equate(60, 0, 1);
        r.due("with 60 others", r.ask().round(0, 2), NONE);
        r.due("with 60 others, the other way round", r.ask().round(2, 1), NONE);
        r.due("back(60)", r.ask().back(60), 0);
        r.due("after back", r.ask().round(0, 1), NONE);
    }

    private static void fromTheLatest(Run r) {
        r.constants(3);
        r.equate(60, 1, 2);
        r.due("the first of 60 stays", r.ask().why(1, 2, 0), 0);
        r.due("it alone", r.ask().why(1, 2, NONE), 1);
        r.due("back(60)", r.ask().back(60), 0);
        r.equate(1, 0, 1);
        r.equate(1, 1, 2);
        r.equate(1, 0, 2);
        r.due("the latest goes, though it were enough", r.ask().why(0, 2, NONE), 2);
        r.due("the last that stays", r.ask().why(0, 2, 1), 1);
    }

    private static void noReasons(Run r) {
        r.constants(2);
        r.due("of one, with no equation", r.ask().why(1, 1, NONE), 0);
        r.equate(60, 0, 1);
        r.due("of one, with 60", r.ask().why(1, 1, NONE), 0);
    }

    private static void sixtyReasons(Run r) {
        r.constants(61);
        for (int n = 1; n <= 60; n++) {
            r.ask().equate(n - 1, n);
            r.due("with " + n, r.ask().why(0, n, NONE), n);
        }
        r.ready();
        r.due("the last of 60", r.ask().why(0, 60, 59), 59);
        r.due("the first of 60", r.ask().why(60, 0, 0), 0);
        r.due("the last equation alone", r.ask().why(60, 59, 0), 59);
        r.due("it alone", r.ask().why(60, 59, NONE), 1);
    }

    private static void reasonsByNumber(Run r) {
        r.constants(61);
        for (int i = 0; i < 60; i++) {
            r.ask().equate(60 - i, 59 - i);
        }
        r.ready();
        for (int k = 0; k < 60; k++) {
            r.due("the " + k + "-th", r.ask().why(0, 60, k), k);
        }
        for (int k = 0; k < 20; k++) {
            r.due("the " + k + "-th of the latest 20", r.ask().why(0, 20, k), 40 + k);
        }
    }

    private static void noSuchReason(Run r) {
        r.constants(61);
        r.due("of one, with no equation", r.ask().why(0, 0, 0), NONE);
        r.chain(60);
        for (int n : new int[] {0, 1, 31, 32, 33, 59, 60}) {
            r.due("how many", r.ask().why(0, n, NONE), n);
            r.due("one beyond " + n, r.ask().why(0, n, n), NONE);
            r.due("two beyond " + n, r.ask().why(0, n, n + 1), NONE);
            for (int k : new int[] {60, 61, 63, 64, 65, 250, MAX - 1, MAX}) {
                r.due("of " + n + ", far on: " + k, r.ask().why(0, n, k), NONE);
            }
        }
    }

    private static void reasonsOfOthers(Run r) {
        r.constants(3);
        for (int told : new int[] {0, 60}) {
            r.equate(told, 0, 1);
            for (int k : new int[] {NONE, 0, 1, 59, 60, MAX}) {
                r.due("why(0, 2, " + k + ")", r.ask().why(0, 2, k), NONE);
                r.due("why(2, 1, " + k + ")", r.ask().why(2, 1, k), NONE);
            }
        }
        r.due("back(60)", r.ask().back(60), 0);
        r.due("how many, after back", r.ask().why(0, 1, NONE), NONE);
        r.due("the first, after back", r.ask().why(0, 1, 0), NONE);
    }

    private static void reasonBelowNone(Run r) {
        r.constants(3);
        r.equate(1, 0, 1);
        for (int k : new int[] {-2, -3, -61, MIN + 1, MIN}) {
            r.due("of two that are the same: " + k, r.ask().why(0, 1, k), BAD);
            r.due("of one: " + k, r.ask().why(2, 2, k), BAD);
            r.due("of two that are not the same: " + k, r.ask().why(0, 2, k), BAD);
            r.due("of no terms: " + k, r.ask().why(0, 3, k), BAD);
        }
        r.due("k = NONE itself", r.ask().why(0, 1, NONE), 1);
    }

    private static void givesOfNone(Run r) {
        r.constants(2);
        r.due("of one, with no equation", r.ask().gives(0, 1, 1), 1);
        r.due("of two, with no equation", r.ask().gives(0, 0, 1), 0);
        r.due("a bit, with no equation", r.ask().gives(1, 1, 1), BAD);
        r.equate(60, 0, 1);
        r.due("of one, with 60", r.ask().gives(0, 1, 1), 1);
        r.due("of two, with 60", r.ask().gives(0, 0, 1), 0);
    }

    private static void highestBit(Run r, int told) {
        r.constants(61);
        r.chain(told);
        long all = (1L << told) - 1;
        r.due("all of them", r.ask().gives(all, 0, told), 1);
        if (told > 0) {
            long highest = 1L << (told - 1);
            r.due("the highest alone", r.ask().gives(highest, told - 1, told), 1);
            r.due("the highest alone, of more", r.ask().gives(highest, 0, told), told == 1 ? 1 : 0);
            r.due("all but the highest", r.ask().gives(all ^ highest, 0, told), 0);
            r.due("all but the highest, up to it", r.ask().gives(all ^ highest, 0, told - 1), 1);
            r.due("all but the lowest", r.ask().gives(all ^ 1, 0, told), 0);
        }
    }

    private static void bitsOfNone(Run r, int told) {
        r.constants(61);
        r.chain(told);
        long all = (1L << told) - 1;
        for (int bit = told; bit < 64; bit++) {
            if (bit < told + 2 || bit > 57 || bit == 31 || bit == 32) {
                r.due("bit " + bit, r.ask().gives(1L << bit, 0, 0), BAD);
                r.due("all and bit " + bit, r.ask().gives(all | 1L << bit, 0, told), BAD);
            }
        }
        r.due("all 64 bits", r.ask().gives(-1, 0, told), BAD);
        r.due("none of those that there are", r.ask().gives(~all, 0, told), BAD);
        r.due("all but the sign", r.ask().gives(Long.MAX_VALUE, 0, told), BAD);
        r.due("the sign", r.ask().gives(Long.MIN_VALUE, 0, told), BAD);
    }

    private static void bitsAfterBack(Run r, int left) {
        r.constants(61);
        r.chain(60);
        r.due("back", r.ask().back(60 - left), left);
        long next = 1L << left;
        r.due("all that are left", r.ask().gives(next - 1, 0, left), 1);
        if (left < 60) {
            r.due("the first that went", r.ask().gives(next, left, left + 1), BAD);
            r.due("the last that went", r.ask().gives(1L << 59, 59, 60), BAD);
            r.due("told again", r.ask().equate(0, 60), left);
            r.due("its bit", r.ask().gives(next, 60, 0), 1);
            r.due("its bit does not give what went", r.ask().gives(next, left, left + 1), 0);
        }
    }

    private static void toldOfLastApplication(Run r) {
        r.constants(248);
        r.ask().apply(0, 247);
        r.ask().apply(248, 0);
        r.ready();
        r.due("told(248, 0)", r.ask().told(248, 0), 0);
        r.due("told(248, 1)", r.ask().told(248, 1), 247);
        r.due("told(249, 0)", r.ask().told(249, 0), 248);
        r.due("told(249, 1)", r.ask().told(249, 1), 0);
    }

    private static void toldOfConstants(Run r) {
        r.constants(250);
        r.equate(1, 0, 1);
        for (int t : new int[] {0, 1, 248, 249}) {
            r.due("told" + Run.of(t, 0), r.ask().told(t, 0), NONE);
            r.due("told" + Run.of(t, 1), r.ask().told(t, 1), NONE);
        }
    }

    private static void toldOfNoTerm(Run r, int n) {
        r.tower(n);
        r.due("the last", r.ask().told(n - 1, 0), n - 2);
        r.due("the last", r.ask().told(n - 1, 1), n - 2);
        noneTold(r, n, 0);
    }

    private static void toldOfEquations(Run r, int n) {
        r.constants(61);
        r.chain(n);
        r.due("the first", r.ask().told(0, 2), 0);
        r.due("the first", r.ask().told(0, 3), 1);
        r.due("the last", r.ask().told(n - 1, 2), n - 1);
        r.due("the last", r.ask().told(n - 1, 3), n);
    }

    private static void toldOfNoEquation(Run r, int n) {
        r.constants(61);
        r.chain(n);
        r.differ(30, 0, 1);
        noneTold(r, n, 2);
    }

    private static void toldOfDifferences(Run r, int n) {
        r.constants(250);
        for (int i = 0; i < n; i++) {
            r.ask().differ(249 - i, i);
        }
        r.ready();
        r.due("the first", r.ask().told(0, 4), 249);
        r.due("the first", r.ask().told(0, 5), 0);
        r.due("the last", r.ask().told(n - 1, 4), 250 - n);
        r.due("the last", r.ask().told(n - 1, 5), n - 1);
    }

    private static void toldOfNoDifference(Run r, int n) {
        r.constants(61);
        r.equate(60, 0, 1);
        r.differ(n, 0, 1);
        noneTold(r, n, 4);
    }

    private static void noneTold(Run r, int n, int what) {
        for (int a : Sentences.noneOf(n)) {
            r.due("told" + Run.of(a, what), r.ask().told(a, what), NONE);
            r.due("told" + Run.of(a, what + 1), r.ask().told(a, what + 1), NONE);
        }
    }

    private static void toldAfterBack(Run r) {
        r.constants(61);
        r.chain(60);
        r.due("back(1)", r.ask().back(1), 59);
        r.due("the one that went", r.ask().told(59, 2), NONE);
        r.due("the one that went", r.ask().told(59, 3), NONE);
        r.due("the last that is left", r.ask().told(58, 3), 59);
        r.due("back(59)", r.ask().back(59), 0);
        r.due("none is left", r.ask().told(0, 2), NONE);
        r.due("none is left", r.ask().told(0, 3), NONE);
    }

    private static void toldOfAnother(Run r) {
        r.tower(3);
        r.equate(3, 0, 1);
        r.differ(3, 0, 1);
        for (int what : NO_KIND_OF_TOLD) {
            for (int a = 0; a < 3; a++) {
                r.due("told" + Run.of(a, what), r.ask().told(a, what), BAD);
            }
        }
    }

    private static void toldBadBeforeNone(Run r) {
        r.ready();
        for (int what : NO_KIND_OF_TOLD) {
            for (int a : Sentences.noneOf(0)) {
                r.due("told" + Run.of(a, what), r.ask().told(a, what), BAD);
            }
        }
        r.due("the last what", r.ask().told(0, 5), NONE);
        r.due("the first what", r.ask().told(0, 0), NONE);
    }

    private static void countOfNone(Run r) {
        r.ready();
        for (int what = 0; what <= 4; what++) {
            r.due("count(" + what + ")", r.ask().count(what), 0);
        }
        r.constants(1);
        r.due("CLASSES of one", r.ask().count(3), 1);
        r.due("the greatest ROUND of one", r.ask().count(4), 0);
    }

    private static void countOfAll(Run r) {
        r.tower(250);
        r.equate(60, 0, 1);
        r.differ(30, 0, 1);
        r.due("count(0)", r.ask().count(0), 250);
        r.due("count(1)", r.ask().count(1), 60);
        r.due("count(2)", r.ask().count(2), 30);
        r.due("count(3)", r.ask().count(3), 1);
        r.due("count(4)", r.ask().count(4), 248);
        r.due("back(60)", r.ask().back(60), 0);
        r.due("count(3) after back", r.ask().count(3), 250);
        r.due("count(4) after back", r.ask().count(4), 0);
    }

    private static void countOfClasses(Run r) {
        r.constants(250);
        r.due("of 250", r.ask().count(3), 250);
        r.chain(60);
        r.due("60 fewer", r.ask().count(3), 190);
        r.due("back(1)", r.ask().back(1), 59);
        r.due("59 fewer", r.ask().count(3), 191);
    }

    private static void countOfRounds(Run r) {
        r.tower(5);
        r.due("with no equation", r.ask().count(4), 0);
        r.equate(1, 3, 4);
        r.due("of the last two alone", r.ask().count(4), 0);
        r.equate(1, 2, 1);
        r.due("what follows is told already", r.ask().count(4), 1);
        r.equate(1, 0, 1);
        r.due("all are the same", r.ask().count(4), 1);
        r.due("back(3)", r.ask().back(3), 0);
        r.equate(1, 0, 1);
        r.due("round by round", r.ask().count(4), 3);
    }

    private static void countOfAnother(Run r) {
        r.ready();
        for (int what : NO_KIND_OF_COUNT) {
            r.due("with nothing: count(" + what + ")", r.ask().count(what), BAD);
        }
        r.tower(250);
        for (int what : NO_KIND_OF_COUNT) {
            r.due("with 250 TERMS: count(" + what + ")", r.ask().count(what), BAD);
        }
    }
}
