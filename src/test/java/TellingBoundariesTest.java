/** Each sentence with a boundary case in "What it is", "Terms" and promises 1 to 7, in a test of its own. */
public final class TellingBoundariesTest {
    private static final int NONE = SameTerms.NONE, BAD = SameTerms.BAD, FULL = SameTerms.FULL;
    private static final int MIN = Integer.MIN_VALUE, MAX = Integer.MAX_VALUE;
    private static final long ALL_60 = (1L << 60) - 1;

    private TellingBoundariesTest() {
    }

    public static void main(String[] args) {
        Sentences each = new Sentences();
        whatItIs(each);
        terms(each);
        gives(each);
        newAndClear(each);
        constantAndApply(each);
        equateAndBack(each);
        differ(each);
        each.end();
    }

    private static void whatItIs(Sentences each) {
        each.holds("What it is: the 512th call is answered, a telling one", TellingBoundariesTest::lastCallTells);
        each.holds("What it is: the 512th call is answered, an asking one", TellingBoundariesTest::lastCallAsks);
        each.holds("What it is: later calls are free, but throw nothing", TellingBoundariesTest::laterCalls);
    }

    private static void terms(Sentences each) {
        each.holds("Terms: TERMS are numbered from 0 on, 250 at most", TellingBoundariesTest::mixedTerms);
        each.holds("Terms: each pair is one TERM alone", TellingBoundariesTest::pairIsOneTerm);
        each.holds("Terms: each pair is one TERM alone, of a pair that is THE SAME too", TellingBoundariesTest::samePairIsAnother);
        each.holds("Terms: EQUATIONS, 60 at most, are numbered from 0 on", TellingBoundariesTest::sixtyEquations);
        each.holds("Terms: DIFFERENCES, 30 at most, likewise", TellingBoundariesTest::thirtyDifferences);
    }

    private static void gives(Sentences each) {
        each.holds("Terms: GIVES: they are one", TellingBoundariesTest::oneIsGiven);
        each.holds("Terms: GIVES: the other way round; or each of them with a third one", TellingBoundariesTest::thirdOne);
        each.holds("Terms: GIVES: first terms, and second ones", TellingBoundariesTest::bothParts);
        each.holds("Terms: GIVES: they are APPLICATIONS (CONSTANTS have no parts)", TellingBoundariesTest::constantsHaveNoParts);
        each.holds("Terms: All APPLICATIONS count, whenever they came", TellingBoundariesTest::laterApplications);
    }

    private static void newAndClear(Sentences each) {
        each.holds("1: No TERMS", TellingBoundariesTest::noTerms);
        each.holds("2: All as at first", TellingBoundariesTest::asAtFirst);
        each.holdsAtFirst("2: All as at first, room for 250 TERMS", TellingBoundariesTest::roomForTerms);
        each.holds("2: All as at first, room for 60 and 30", TellingBoundariesTest::roomForPairs);
        each.holds("2: how many TERMS there were, none", TellingBoundariesTest::clearOfNone);
        each.holds("2: how many TERMS there were", new int[] {1, 2, 249, 250}, TellingBoundariesTest::clearOfSome);
        each.holds("2: how many TERMS there were, of both kinds", TellingBoundariesTest::clearCountsBothKinds);
    }

    private static void constantAndApply(Sentences each) {
        each.holds("3: its number", TellingBoundariesTest::constantNumbers);
        each.holds("3: FULL", TellingBoundariesTest::constantIsFull);
        each.holds("3: FULL, by APPLICATIONS", TellingBoundariesTest::constantIsFullByApplications);
        each.holds("4: its number", TellingBoundariesTest::applyNumbers);
        each.holds("4: which it may have already", TellingBoundariesTest::applyAgain);
        each.holds("4: which it may have already, with 250", TellingBoundariesTest::applyAgainWhenFull);
        each.badTerms("4: BAD: no such TERMS", (x, a, b) -> x.apply(a, b));
        each.holds("4: BAD: the next number itself", TellingBoundariesTest::applyOfItself);
        each.holds("4: FULL", TellingBoundariesTest::applyIsFull);
    }

    private static void equateAndBack(Sentences each) {
        each.holds("5: its number", TellingBoundariesTest::equateTakesTheLast);
        each.badTerms("5: BAD: no such TERMS", (x, a, b) -> x.equate(a, b));
        each.holds("5: BAD: no such TERMS, with 60", TellingBoundariesTest::equateIsBadWhenFull);
        each.holds("5: FULL: there are 60", TellingBoundariesTest::equateIsFull);
        each.holds("5: FULL no more after back", new int[] {1, 2, 59, 60}, TellingBoundariesTest::roomAfterBack);
        for (int told : new int[] {0, 1, 2, 59, 60}) {
            int[] some = {0, told / 2, Math.max(told - 1, 0), told};
            each.holds("6: how many are left of " + told, some, (r, n) -> backLeaves(r, told, n));
        }
        each.holds("6: BAD: n is below 0", new int[] {0, 1, 60}, TellingBoundariesTest::backBelowNone);
        each.holds("6: BAD: more than there are", new int[] {0, 1, 2, 59, 60}, TellingBoundariesTest::backOfMore);
        each.holds("6: the latest EQUATIONS go", TellingBoundariesTest::theLatestGo);
    }

    private static void differ(Sentences each) {
        each.holds("7: its number", TellingBoundariesTest::differTakesTheLast);
        each.badTerms("7: BAD", (x, a, b) -> x.differ(a, b));
        each.holds("7: BAD, with 30", TellingBoundariesTest::differIsBadWhenFull);
        each.holds("7: FULL: there are 30", TellingBoundariesTest::differIsFull);
        each.holds("7: FULL: back makes no room", TellingBoundariesTest::backKeepsDifferences);
    }

    private static void askAway(Run r, int left) {
        for (int i = r.callsLeft(); i > left; i--) {
            r.ask().same(i % 61, i % 7);
        }
    }

    private static void lastCallTells(Run r) {
        r.constants(249);
        askAway(r, 1);
        r.due("constant()", r.ask().constant(), 249);
    }

    private static void lastCallAsks(Run r) {
        r.constants(61);
        r.chain(60);
        askAway(r, 2);
        r.due("the 511th: why(0, 60, 59)", r.ask().why(0, 60, 59), 59);
        r.due("the 512th: gives", r.ask().gives(ALL_60 >>> 1, 0, 60), 0);
    }

    private static void laterCalls(Run r) {
        r.constants(61);
        r.chain(60);
        r.differ(30, 0, 1);
        askAway(r, 0);
        SameTerms x = r.beyond();
        int[] numbers = {MIN, -2, -1, 0, 1, 59, 60, 61, 249, 250, MAX};
        for (int round = 0; round < 3; round++) {
            for (int a : numbers) {
                for (int b : numbers) {
                    everyCall(x, a, b);
                }
            }
        }
    }

    private static void everyCall(SameTerms x, int a, int b) {
        x.constant();
        x.apply(a, b);
        x.equate(a, b);
        x.differ(a, b);
        x.clash();
        x.same(a, b);
        x.least(a);
        x.size(a);
        x.since(a, b);
        x.round(a, b);
        x.why(a, b, a);
        x.gives(b, a, b);
        x.told(a, b);
        x.count(a);
        x.back(a);
        if (a == MAX && b == MAX) {
            x.clear();
        }
    }

    private static void mixedTerms(Run r) {
        for (int t = 0; t < 250; t += 2) {
            r.due("constant()", r.ask().constant(), t);
            r.due("apply" + Run.of(t, t), r.ask().apply(t, t), t + 1);
        }
        r.ready();
        r.due("constant() with 250", r.ask().constant(), FULL);
        r.due("apply(249, 249) with 250", r.ask().apply(249, 249), FULL);
        r.due("count(0)", r.ask().count(0), 250);
        r.due("told(249, 0)", r.ask().told(249, 0), 248);
        r.due("told(248, 0)", r.ask().told(248, 0), NONE);
    }

    private static void pairIsOneTerm(Run r) {
        r.constants(2);
        for (int again = 0; again < 2; again++) {
            r.due("apply(0, 0)", r.ask().apply(0, 0), 2);
            r.due("apply(0, 1)", r.ask().apply(0, 1), 3);
            r.due("apply(1, 0)", r.ask().apply(1, 0), 4);
            r.due("apply(1, 1)", r.ask().apply(1, 1), 5);
            r.ready();
        }
        r.due("count(0)", r.ask().count(0), 6);
        r.due("four classes of these", r.ask().count(3), 6);
    }

    private static void samePairIsAnother(Run r) {
        r.constants(2);
        r.due("apply(0, 0)", r.ask().apply(0, 0), 2);
        r.equate(1, 0, 1);
        r.due("apply(1, 0)", r.ask().apply(1, 0), 3);
        r.due("apply(0, 1)", r.ask().apply(0, 1), 4);
        r.due("size(2)", r.ask().size(2), 3);
        r.due("back(1)", r.ask().back(1), 0);
        r.due("apply(1, 0) after back", r.ask().apply(1, 0), 3);
        r.due("size(2) after back", r.ask().size(2), 1);
    }

    private static void sixtyEquations(Run r) {
        r.constants(61);
        r.chain(60);
        r.due("count(1)", r.ask().count(1), 60);
        r.due("told(0, 2)", r.ask().told(0, 2), 0);
        r.due("told(59, 3)", r.ask().told(59, 3), 60);
        r.due("same(0, 60)", r.ask().same(0, 60), 1);
        r.due("one more", r.ask().equate(0, 1), FULL);
    }

    private static void thirtyDifferences(Run r) {
        r.constants(60);
        for (int i = 0; i < 30; i++) {
            r.due("differ", r.ask().differ(i, 59 - i), i);
        }
        r.ready();
        r.due("count(2)", r.ask().count(2), 30);
        r.due("told(0, 5)", r.ask().told(0, 5), 59);
        r.due("told(29, 4)", r.ask().told(29, 4), 29);
        r.due("one more", r.ask().differ(0, 1), FULL);
    }

    private static void oneIsGiven(Run r) {
        r.constants(250);
        r.due("gives(0, 0, 0)", r.ask().gives(0, 0, 0), 1);
        r.due("gives(0, 249, 249)", r.ask().gives(0, 249, 249), 1);
        r.due("gives(0, 0, 249)", r.ask().gives(0, 0, 249), 0);
        r.due("same(249, 249)", r.ask().same(249, 249), 1);
        r.due("same(248, 249)", r.ask().same(248, 249), 0);
    }

    private static void thirdOne(Run r) {
        r.constants(3);
        r.equate(1, 1, 0);
        r.equate(1, 1, 2);
        r.due("gives(1, 0, 1)", r.ask().gives(1, 0, 1), 1);
        r.due("gives(1, 1, 0)", r.ask().gives(1, 1, 0), 1);
        r.due("gives(3, 0, 2)", r.ask().gives(3, 0, 2), 1);
        r.due("gives(3, 2, 0)", r.ask().gives(3, 2, 0), 1);
        r.due("gives(1, 0, 2)", r.ask().gives(1, 0, 2), 0);
        r.due("gives(2, 0, 2)", r.ask().gives(2, 0, 2), 0);
    }

    private static void bothParts(Run r) {
        r.constants(4);
        int p = r.ask().apply(0, 2);
        int q = r.ask().apply(1, 3);
        int crosswise = r.ask().apply(3, 1);
        r.equate(1, 0, 1);
        r.equate(1, 2, 3);
        r.due("of first terms alone", r.ask().gives(1, p, q), 0);
        r.due("of second ones alone", r.ask().gives(2, p, q), 0);
        r.due("of both", r.ask().gives(3, p, q), 1);
        r.due("crosswise", r.ask().gives(3, p, crosswise), 0);
    }

    private static void constantsHaveNoParts(Run r) {
        r.constants(5);
        r.equate(1, 0, 1);
        r.due("same(2, 3)", r.ask().same(2, 3), 0);
        r.due("same(0, 4)", r.ask().same(0, 4), 0);
        r.due("count(3)", r.ask().count(3), 4);
        int p = r.ask().apply(0, 0);
        r.due("an application and a constant", r.ask().same(p, 0), 0);
        r.due("count(3) with it", r.ask().count(3), 5);
        r.due("count(4)", r.ask().count(4), 0);
    }

    private static void laterApplications(Run r) {
        r.constants(3);
        r.equate(1, 1, 2);
        r.due("count(3) before", r.ask().count(3), 2);
        int p = r.ask().apply(0, 1);
        r.equate(1, p, 0);
        int q = r.ask().apply(0, 2);
        r.due("same(0, q)", r.ask().same(0, q), 1);
        r.due("since(p, q): the first is enough", r.ask().since(p, q), 1);
        r.due("since(0, q)", r.ask().since(0, q), 2);
        r.due("round(p, q)", r.ask().round(p, q), 1);
        r.due("why(p, q): how many", r.ask().why(p, q, NONE), 1);
        r.due("gives(1, p, q)", r.ask().gives(1, p, q), 1);
    }

    private static void noTerms(Run r) {
        r.ready();
        for (int what = 0; what <= 4; what++) {
            r.due("count(" + what + ")", r.ask().count(what), 0);
        }
        for (int what = 0; what <= 5; what++) {
            r.due("told(0, " + what + ")", r.ask().told(0, what), NONE);
        }
        r.due("clash()", r.ask().clash(), NONE);
        r.due("apply(0, 0)", r.ask().apply(0, 0), BAD);
        r.due("equate(0, 0)", r.ask().equate(0, 0), BAD);
        r.due("back(0)", r.ask().back(0), 0);
        r.due("back(1)", r.ask().back(1), BAD);
        r.due("differ(0, 0)", r.ask().differ(0, 0), BAD);
        r.due("same(0, 0)", r.ask().same(0, 0), BAD);
        r.due("least(0)", r.ask().least(0), BAD);
        r.due("size(0)", r.ask().size(0), BAD);
        r.due("since(0, 0)", r.ask().since(0, 0), BAD);
        r.due("round(0, 0)", r.ask().round(0, 0), BAD);
        r.due("why(0, 0, NONE)", r.ask().why(0, 0, NONE), BAD);
        r.due("gives(0, 0, 0)", r.ask().gives(0, 0, 0), BAD);
        r.due("clear()", r.ask().clear(), 0);
        r.due("constant()", r.ask().constant(), 0);
    }

    private static void fillAll(Run r) {
        r.tower(250);
        r.equate(60, 0, 1);
        r.differ(30, 0, 249);
        r.due("clash()", r.ask().clash(), 0);
        r.due("count(4)", r.ask().count(4), 248);
        r.due("why(0, 249, NONE)", r.ask().why(0, 249, NONE), 1);
    }

    private static void asAtFirst(Run r) {
        fillAll(r);
        r.due("clear()", r.ask().clear(), 250);
        noTerms(r);
        r.due("the second constant", r.ask().constant(), 1);
        r.due("same(0, 1)", r.ask().same(0, 1), 0);
        r.due("round(0, 1)", r.ask().round(0, 1), NONE);
        r.due("why(0, 0, NONE)", r.ask().why(0, 0, NONE), 0);
        r.due("told(1, 0)", r.ask().told(1, 0), NONE);
        r.due("the pair is new", r.ask().apply(0, 0), 2);
        r.due("size(2)", r.ask().size(2), 1);
        r.due("gives(1, 0, 1)", r.ask().gives(1, 0, 1), BAD);
        r.due("equate(1, 2)", r.ask().equate(1, 2), 0);
        r.due("differ(2, 1)", r.ask().differ(2, 1), 0);
        r.due("clash()", r.ask().clash(), 0);
        r.due("count(3)", r.ask().count(3), 2);
    }

    private static void roomForTerms(Run r) {
        r.constants(250);
        r.due("constant() with 250", r.ask().constant(), FULL);
        r.due("clear()", r.ask().clear(), 250);
        r.constants(250);
        r.due("constant() with 250 again", r.ask().constant(), FULL);
    }

    private static void roomForPairs(Run r) {
        r.constants(2);
        r.equate(60, 0, 1);
        r.differ(30, 0, 1);
        r.due("clear()", r.ask().clear(), 2);
        r.constants(3);
        r.equate(59, 0, 1);
        r.due("the 60th", r.ask().equate(1, 2), 59);
        r.due("the 61st", r.ask().equate(0, 2), FULL);
        r.differ(30, 0, 2);
        r.due("the 31st", r.ask().differ(0, 2), FULL);
    }

    private static void clearOfNone(Run r) {
        r.ready();
        r.due("clear()", r.ask().clear(), 0);
        r.due("clear() again", r.ask().clear(), 0);
    }

    private static void clearOfSome(Run r, int n) {
        r.constants(n);
        r.equate(5, 0, n - 1);
        r.differ(7, 0, n - 1);
        r.due("clear()", r.ask().clear(), n);
        r.due("clear() again", r.ask().clear(), 0);
        r.due("count(0)", r.ask().count(0), 0);
        r.due("count(1)", r.ask().count(1), 0);
        r.due("count(2)", r.ask().count(2), 0);
    }

    private static void clearCountsBothKinds(Run r) {
        r.constants(3);
        r.ask().apply(0, 1);
        r.ask().apply(0, 1);
        r.ask().apply(3, 3);
        r.due("clear()", r.ask().clear(), 5);
    }

    private static void constantNumbers(Run r) {
        r.constants(249);
        r.due("the last", r.ask().constant(), 249);
        r.due("it is one of its own", r.ask().size(249), 1);
        r.due("it has no parts", r.ask().told(249, 0), NONE);
    }

    private static void constantIsFull(Run r) {
        r.constants(250);
        r.due("constant()", r.ask().constant(), FULL);
        r.due("constant() again", r.ask().constant(), FULL);
        r.due("count(0)", r.ask().count(0), 250);
        r.due("count(3)", r.ask().count(3), 250);
        r.due("the one that is not", r.ask().least(250), BAD);
        r.equate(2, 0, 249);
        r.due("back(2)", r.ask().back(2), 0);
        r.due("back makes no room", r.ask().constant(), FULL);
    }

    private static void constantIsFullByApplications(Run r) {
        r.tower(250);
        r.due("constant()", r.ask().constant(), FULL);
        r.due("count(0)", r.ask().count(0), 250);
        r.due("the last is as it was", r.ask().told(249, 1), 248);
        r.due("clear()", r.ask().clear(), 250);
        r.due("constant() after clear()", r.ask().constant(), 0);
    }

    private static void applyNumbers(Run r) {
        r.constants(249);
        r.due("the last", r.ask().apply(248, 0), 249);
        r.due("its first", r.ask().told(249, 0), 248);
        r.due("its second", r.ask().told(249, 1), 0);
        r.due("it is one of its own", r.ask().size(249), 1);
    }

    private static void applyAgain(Run r) {
        r.constants(1);
        r.due("apply(0, 0)", r.ask().apply(0, 0), 1);
        r.due("apply(1, 0)", r.ask().apply(1, 0), 2);
        r.due("apply(0, 1)", r.ask().apply(0, 1), 3);
        r.ready();
        r.due("apply(0, 0) again", r.ask().apply(0, 0), 1);
        r.due("apply(1, 0) again", r.ask().apply(1, 0), 2);
        r.due("apply(0, 1) again", r.ask().apply(0, 1), 3);
        r.due("count(0)", r.ask().count(0), 4);
        r.due("the next number", r.ask().constant(), 4);
    }

    private static void applyAgainWhenFull(Run r) {
        r.tower(250);
        for (int t = 1; t < 250; t++) {
            if (t < 3 || t > 240) {
                r.due("the application " + t, r.ask().apply(t - 1, t - 1), t);
            }
        }
        r.due("count(0)", r.ask().count(0), 250);
    }

    private static void applyOfItself(Run r) {
        r.constants(3);
        r.due("apply(3, 0)", r.ask().apply(3, 0), BAD);
        r.due("apply(0, 3)", r.ask().apply(0, 3), BAD);
        r.due("apply(3, 3)", r.ask().apply(3, 3), BAD);
        r.due("apply(NONE, NONE), the parts of a constant", r.ask().apply(NONE, NONE), BAD);
        r.due("apply(2, 2)", r.ask().apply(2, 2), 3);
        r.due("apply(3, 3) then", r.ask().apply(3, 3), 4);
    }

    private static void applyIsFull(Run r) {
        r.tower(249);
        r.due("the last", r.ask().apply(0, 248), 249);
        r.due("one more", r.ask().apply(248, 0), FULL);
        r.due("of the last one", r.ask().apply(249, 249), FULL);
        r.due("of the last one and the first", r.ask().apply(0, 249), FULL);
        r.due("one more again", r.ask().apply(248, 0), FULL);
        r.due("no such terms", r.ask().apply(250, 250), BAD);
        r.due("count(0)", r.ask().count(0), 250);
        r.due("the last is as it was", r.ask().told(249, 0), 0);
        r.due("clear()", r.ask().clear(), 250);
        r.due("no such terms then", r.ask().apply(0, 0), BAD);
        r.due("constant()", r.ask().constant(), 0);
        r.due("there is room again", r.ask().apply(0, 0), 1);
    }

    private static void equateTakesTheLast(Run r) {
        r.constants(250);
        r.due("equate(249, 249)", r.ask().equate(249, 249), 0);
        r.due("equate(0, 0)", r.ask().equate(0, 0), 1);
        r.due("nothing is the same by these", r.ask().count(3), 250);
        r.due("equate(0, 249)", r.ask().equate(0, 249), 2);
        r.due("equate(249, 0)", r.ask().equate(249, 0), 3);
        r.due("same(249, 0)", r.ask().same(249, 0), 1);
        r.due("count(3)", r.ask().count(3), 249);
    }

    private static void equateIsBadWhenFull(Run r) {
        r.constants(2);
        r.equate(60, 0, 0);
        for (int a : Sentences.noneOf(2)) {
            r.due("equate" + Run.of(a, 0), r.ask().equate(a, 0), BAD);
            r.due("equate" + Run.of(1, a), r.ask().equate(1, a), BAD);
        }
        r.due("count(1)", r.ask().count(1), 60);
    }

    private static void equateIsFull(Run r) {
        r.constants(3);
        r.equate(59, 0, 1);
        r.due("the 60th", r.ask().equate(1, 0), 59);
        r.due("the 61st", r.ask().equate(1, 2), FULL);
        r.due("the 61st again", r.ask().equate(2, 2), FULL);
        r.due("it was not told", r.ask().same(1, 2), 0);
        r.due("count(1)", r.ask().count(1), 60);
        r.due("the last is as it was", r.ask().told(59, 2), 1);
        r.due("there is no other", r.ask().told(60, 2), NONE);
    }

    private static void roomAfterBack(Run r, int n) {
        r.constants(3);
        r.equate(60, 0, 1);
        r.due("back", r.ask().back(n), 60 - n);
        for (int i = 60 - n; i < 60; i++) {
            r.due("equate(1, 2)", r.ask().equate(1, 2), i);
        }
        r.due("the 61st", r.ask().equate(1, 2), FULL);
        r.due("told of the last", r.ask().told(59, 3), 2);
        r.due("since(1, 2)", r.ask().since(1, 2), 61 - n);
        r.due("since(0, 1)", r.ask().since(0, 1), n == 60 ? NONE : 1);
    }

    private static void backLeaves(Run r, int told, int n) {
        r.constants(61);
        r.chain(told);
        r.due("back(" + n + ")", r.ask().back(n), told - n);
        r.due("count(1)", r.ask().count(1), told - n);
        r.due("count(3)", r.ask().count(3), 61 - told + n);
        r.due("those that are left", r.ask().same(0, told - n), 1);
        r.due("back(0)", r.ask().back(0), told - n);
        r.due("back of all that are left", r.ask().back(told - n), 0);
        r.due("count(3) then", r.ask().count(3), 61);
    }

    private static void backBelowNone(Run r, int told) {
        r.constants(61);
        r.chain(told);
        for (int n : new int[] {-1, -2, -3, -told, -told - 1, MIN, MIN + 1, MIN + told}) {
            if (n < 0) {
                r.due("back(" + n + ")", r.ask().back(n), BAD);
            }
        }
        r.due("count(1)", r.ask().count(1), told);
        r.due("same(0, told)", r.ask().same(0, told), 1);
    }

    private static void backOfMore(Run r, int told) {
        r.constants(61);
        r.chain(told);
        for (int n : new int[] {told + 1, told + 2, 61, 64, 2 * told + 1, MAX - 1, MAX}) {
            r.due("back(" + n + ")", r.ask().back(n), BAD);
        }
        r.due("count(1)", r.ask().count(1), told);
        r.due("same(0, told)", r.ask().same(0, told), 1);
        r.due("all of them", r.ask().back(told), 0);
        r.due("one more", r.ask().back(1), BAD);
        r.due("none", r.ask().back(0), 0);
    }

    private static void theLatestGo(Run r) {
        r.constants(4);
        r.chain(3);
        r.differ(1, 2, 3);
        r.due("clash()", r.ask().clash(), 0);
        r.due("back(1)", r.ask().back(1), 2);
        r.due("the latest went", r.ask().same(2, 3), 0);
        r.due("those before it stay", r.ask().same(0, 2), 1);
        r.due("clash()", r.ask().clash(), NONE);
        r.due("TERMS and DIFFERENCES stay", r.ask().count(0) + r.ask().count(2), 5);
        r.due("the next has its number", r.ask().equate(0, 3), 2);
        r.due("and its terms", r.ask().told(2, 2), 0);
        r.due("clash() by it", r.ask().clash(), 0);
        r.due("back(3)", r.ask().back(3), 0);
        r.due("count(3)", r.ask().count(3), 4);
    }

    private static void differTakesTheLast(Run r) {
        r.constants(250);
        r.due("differ(0, 249)", r.ask().differ(0, 249), 0);
        r.due("differ(249, 0)", r.ask().differ(249, 0), 1);
        r.due("clash()", r.ask().clash(), NONE);
        r.due("differ(249, 249)", r.ask().differ(249, 249), 2);
        r.due("clash() of one", r.ask().clash(), 2);
    }

    private static void differIsBadWhenFull(Run r) {
        r.constants(2);
        r.differ(30, 0, 1);
        for (int a : Sentences.noneOf(2)) {
            r.due("differ" + Run.of(a, 0), r.ask().differ(a, 0), BAD);
            r.due("differ" + Run.of(1, a), r.ask().differ(1, a), BAD);
        }
        r.due("count(2)", r.ask().count(2), 30);
    }

    private static void differIsFull(Run r) {
        r.constants(2);
        r.differ(29, 0, 1);
        r.ready();
        r.due("the 30th", r.ask().differ(1, 0), 29);
        r.due("the 31st", r.ask().differ(0, 0), FULL);
        r.due("the 31st again", r.ask().differ(1, 0), FULL);
        r.due("it was not told", r.ask().clash(), NONE);
        r.due("count(2)", r.ask().count(2), 30);
        r.due("the last is as it was", r.ask().told(29, 4), 1);
        r.due("there is no other", r.ask().told(30, 4), NONE);
        r.due("clear()", r.ask().clear(), 2);
        r.due("constant()", r.ask().constant(), 0);
        r.due("there is room again", r.ask().differ(0, 0), 0);
    }

    private static void backKeepsDifferences(Run r) {
        r.constants(2);
        r.equate(3, 0, 1);
        r.differ(30, 0, 1);
        r.due("back(3)", r.ask().back(3), 0);
        r.due("count(2)", r.ask().count(2), 30);
        r.due("the 31st", r.ask().differ(0, 1), FULL);
    }
}
