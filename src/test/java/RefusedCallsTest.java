import java.util.ArrayList;
import java.util.List;
import java.util.function.ToIntFunction;

/**
 * A refused call changes nothing that later calls show. In each state the calls of one promise that are
 * refused are made, and then all looks at the object answer as they do where no refused call was made.
 */
public final class RefusedCallsTest {
    private static final int NONE = SameTerms.NONE, BAD = SameTerms.BAD, FULL = SameTerms.FULL;
    private static final int MIN = Integer.MIN_VALUE, MAX = Integer.MAX_VALUE;
    private static final int LOOK_LENGTH = 90;
    private static final Check CHECK = new Check();

    private record Call(String name, ToIntFunction<SameTerms> on) {
    }

    /** Calls of one promise, which all answer BAD or all FULL. */
    private record Refused(int answer, List<Call> calls) {
    }

    private record State(String name, int terms, int equations, int differences, Sentences.Test tell) {
        long bits() {
            return (1L << equations) - 1;
        }
    }

    private RefusedCallsTest() {
    }

    public static void main(String[] args) {
        for (State state : states()) {
            for (List<Call> look : looks(state)) {
                afterEachRefusal(state, look, answers(state, look));
            }
        }
        CHECK.end();
    }

    /** What the look shows where no call was refused. */
    private static int[] answers(State state, List<Call> look) {
        Run r = new Run(CHECK, state.name, Run.Way.NEW);
        state.tell.on(r);
        int[] answers = new int[look.size()];
        for (int i = 0; i < answers.length; i++) {
            answers[i] = look.get(i).on.applyAsInt(r.ask());
        }
        return answers;
    }

    private static void afterEachRefusal(State state, List<Call> look, int[] due) {
        for (Refused refused : refused(state)) {
            for (Run.Way way : Run.Way.values()) {
                for (int asked = 0; asked < 2; asked++) {
                    Run r = new Run(CHECK, state.name + ", " + refused.calls.get(0).name, way);
                    state.tell.on(r);
                    if (asked == 1) {
                        askSome(r, state.terms - 1);
                    }
                    refuse(r, refused);
                    for (int i = 0; i < due.length; i++) {
                        r.due(look.get(i).name, look.get(i).on.applyAsInt(r.ask()), due[i]);
                    }
                }
            }
        }
    }

    /** So that what the program may keep of earlier answers is there when the refused calls come. */
    private static void askSome(Run r, int last) {
        r.ask().same(0, last);
        r.ask().count(4);
        r.ask().why(0, last, NONE);
    }

    private static void refuse(Run r, Refused refused) {
        for (Call call : refused.calls) {
            r.due(call.name, call.on.applyAsInt(r.ask()), refused.answer);
        }
    }

    private static List<State> states() {
        List<State> all = new ArrayList<>();
        all.add(new State("nothing", 0, 0, 0, Run::ready));
        all.add(new State("one term", 1, 0, 0, r -> r.constants(1)));
        all.add(new State("a few", 6, 3, 2, RefusedCallsTest::tellFew));
        all.add(new State("250 terms", 250, 1, 1, r -> tellTower(r, 1, 1)));
        all.add(new State("60 equations", 61, 60, 1, r -> tellChain(r, 60, 1)));
        all.add(new State("30 differences", 61, 2, 30, r -> tellChain(r, 2, 30)));
        all.add(new State("all full", 250, 60, 30, r -> tellTower(r, 60, 30)));
        return all;
    }

    private static void tellFew(Run r) {
        r.constants(3);
        r.ask().apply(0, 1);
        r.ask().apply(0, 2);
        r.ask().apply(3, 4);
        r.ask().equate(1, 2);
        r.ask().equate(0, 0);
        r.ask().equate(5, 1);
        r.ask().differ(0, 1);
        r.ask().differ(4, 3);
        r.ready();
    }

    private static void tellTower(Run r, int equations, int differences) {
        r.tower(250);
        r.equate(equations, 2, 3);
        r.differ(differences, 200, 249);
    }

    private static void tellChain(Run r, int equations, int differences) {
        r.constants(61);
        r.chain(equations);
        r.differ(differences, 58, 60);
    }

    private static List<Refused> refused(State s) {
        List<Refused> all = new ArrayList<>();
        addFull(all, s.terms == 250, new Call("constant()", SameTerms::constant));
        addFull(all, s.terms == 250, new Call("apply(0, last)", x -> x.apply(0, s.terms - 1)));
        addFull(all, s.equations == 60, new Call("equate(0, last)", x -> x.equate(0, s.terms - 1)));
        addFull(all, s.differences == 30, new Call("differ(0, 0)", x -> x.differ(0, 0)));
        List<List<Call>> bad = List.of(
            wrongPairs(s, "apply", SameTerms::apply),
            wrongPairs(s, "equate", SameTerms::equate),
            wrongBacks(s),
            wrongPairs(s, "differ", SameTerms::differ),
            wrongPairs(s, "same", SameTerms::same),
            wrongTerms(s, "least", SameTerms::least),
            wrongTerms(s, "size", SameTerms::size),
            wrongPairs(s, "since", SameTerms::since),
            wrongPairs(s, "round", SameTerms::round),
            wrongPairs(s, "why", (x, a, b) -> x.why(a, b, NONE)),
            wrongReasons(0, s.terms - 1),
            wrongReasons(1, 2),
            wrongReasons(2, 3),
            wrongPairs(s, "gives", (x, a, b) -> x.gives(s.bits(), a, b)),
            wrongSets(s),
            wrongKindsOfTold(),
            wrongKindsOfCount());
        for (List<Call> calls : bad) {
            all.add(new Refused(BAD, calls));
        }
        return all;
    }

    /** Twice, for the first of them could make room or take it. */
    private static void addFull(List<Refused> all, boolean isFull, Call call) {
        if (isFull) {
            all.add(new Refused(FULL, List.of(call, call)));
        }
    }

    private static List<Call> wrongTerms(State s, String name, Sentences.OneTerm call) {
        List<Call> calls = new ArrayList<>();
        for (int wrong : new int[] {-1, s.terms, MIN, MAX}) {
            calls.add(new Call(name + "(" + wrong + ")", x -> call.on(x, wrong)));
        }
        return calls;
    }

    private static List<Call> wrongPairs(State s, String name, Sentences.TwoTerms call) {
        List<Call> calls = new ArrayList<>();
        for (int wrong : new int[] {-1, s.terms, MIN, MAX}) {
            int last = s.terms - 1;
            calls.add(new Call(name + Run.of(wrong, last), x -> call.on(x, wrong, last)));
            calls.add(new Call(name + Run.of(last, wrong), x -> call.on(x, last, wrong)));
        }
        return calls;
    }

    private static List<Call> wrongBacks(State s) {
        List<Call> calls = new ArrayList<>();
        for (int n : new int[] {-1, s.equations + 1, 61, MIN, MAX}) {
            calls.add(new Call("back(" + n + ")", x -> x.back(n)));
        }
        return calls;
    }

    private static List<Call> wrongReasons(int a, int b) {
        List<Call> calls = new ArrayList<>();
        for (int k : new int[] {-2, -3, MIN}) {
            calls.add(new Call("why" + Run.of(a, b) + " " + k, x -> x.why(a, b, k)));
        }
        return calls;
    }

    private static List<Call> wrongSets(State s) {
        List<Call> calls = new ArrayList<>();
        for (long set : new long[] {1L << s.equations, Long.MIN_VALUE, -1, s.bits() | Long.MIN_VALUE}) {
            calls.add(new Call("gives(" + set + ", 0, 0)", x -> x.gives(set, 0, 0)));
            calls.add(new Call("gives(" + set + ", 0, last)", x -> x.gives(set, 0, s.terms - 1)));
        }
        return calls;
    }

    private static List<Call> wrongKindsOfTold() {
        List<Call> calls = new ArrayList<>();
        for (int what : new int[] {-1, 6, MIN, MAX}) {
            calls.add(new Call("told(0, " + what + ")", x -> x.told(0, what)));
        }
        return calls;
    }

    private static List<Call> wrongKindsOfCount() {
        List<Call> calls = new ArrayList<>();
        for (int what : new int[] {-1, 5, MIN, MAX}) {
            calls.add(new Call("count(" + what + ")", x -> x.count(what)));
        }
        return calls;
    }

    /** All asking calls, in looks that the calls of one object suffice for, and each telling call as the first of a look. */
    private static List<List<Call>> looks(State s) {
        List<Call> asks = asks(s);
        List<List<Call>> looks = new ArrayList<>();
        for (int from = 0; from < asks.size(); from += LOOK_LENGTH) {
            looks.add(asks.subList(from, Math.min(from + LOOK_LENGTH, asks.size())));
        }
        looks.add(reasonsFirst(1, 2));
        looks.add(reasonsFirst(2, 3));
        for (Call tells : tellings(s)) {
            List<Call> look = new ArrayList<>();
            look.add(tells);
            look.addAll(asks.subList(0, Math.min(LOOK_LENGTH - 1, asks.size())));
            looks.add(look);
        }
        return looks;
    }

    /** Before any other call that could make good what a refused one left. */
    private static List<Call> reasonsFirst(int a, int b) {
        return List.of(
            new Call("why" + Run.of(a, b) + " the first, at once", x -> x.why(a, b, 0)),
            new Call("why" + Run.of(a, b) + " how many", x -> x.why(a, b, NONE)));
    }

    private static List<Call> tellings(State s) {
        int last = s.terms - 1;
        return List.of(
            new Call("clear()", SameTerms::clear),
            new Call("constant()", SameTerms::constant),
            new Call("apply(last, 0)", x -> x.apply(last, 0)),
            new Call("apply(0, 0)", x -> x.apply(0, 0)),
            new Call("equate(0, last)", x -> x.equate(0, last)),
            new Call("differ(last, last)", x -> x.differ(last, last)),
            new Call("back(1)", x -> x.back(1)),
            new Call("back of all", x -> x.back(s.equations)));
    }

    private static List<Call> asks(State s) {
        List<Call> calls = new ArrayList<>();
        for (int what = 0; what <= 4; what++) {
            int kind = what;
            calls.add(new Call("count(" + kind + ")", x -> x.count(kind)));
        }
        calls.add(new Call("clash()", SameTerms::clash));
        addTold(calls, s.equations, 2);
        addTold(calls, s.differences, 4);
        int[] some = {0, 1, 2, 3, s.terms - 3, s.terms - 1};
        for (int a : some) {
            for (int b : some) {
                addPair(calls, s, a, b);
            }
        }
        for (int t = 0; t <= s.terms; t += s.terms > 100 ? 5 : 1) {
            int a = t;
            calls.add(new Call("least(" + a + ")", x -> x.least(a)));
            calls.add(new Call("size(" + a + ")", x -> x.size(a)));
            calls.add(new Call("told" + Run.of(a, 0), x -> x.told(a, 0)));
            calls.add(new Call("told" + Run.of(a, 1), x -> x.told(a, 1)));
        }
        return calls;
    }

    /** The first and the last two, and the one that is not there. */
    private static void addTold(List<Call> calls, int total, int what) {
        for (int a : new int[] {0, total - 2, total - 1, total}) {
            calls.add(new Call("told" + Run.of(a, what), x -> x.told(a, what)));
            calls.add(new Call("told" + Run.of(a, what + 1), x -> x.told(a, what + 1)));
        }
    }

    private static void addPair(List<Call> calls, State s, int a, int b) {
        String of = Run.of(a, b);
        calls.add(new Call("same" + of, x -> x.same(a, b)));
        calls.add(new Call("since" + of, x -> x.since(a, b)));
        calls.add(new Call("round" + of, x -> x.round(a, b)));
        calls.add(new Call("why" + of + " how many", x -> x.why(a, b, NONE)));
        calls.add(new Call("why" + of + " the first", x -> x.why(a, b, 0)));
        calls.add(new Call("gives" + of + " by all", x -> x.gives(s.bits(), a, b)));
        calls.add(new Call("gives" + of + " by all but the first", x -> x.gives(s.bits() & -2, a, b)));
    }
}
