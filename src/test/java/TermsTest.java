import java.util.ArrayList;
import java.util.List;
import java.util.function.Supplier;
import java.util.function.ToIntFunction;

/** The sentences of 'Terms' and 'What it is' on which the promises rest: one test for each. */
public final class TermsTest {
    private static final Check CHECK = new Check();
    private static final int CALLS = 512;

    /** A call with the answer that is due on the network it is meant for. */
    private record Call(String name, ToIntFunction<FluxModeEnumerator> call, int due) {
        void ask(FluxModeEnumerator x, String when) {
            CHECK.due(name + when, call.applyAsInt(x), due);
        }
    }

    private static final List<Call> BRANCH_QUESTIONS = List.of(
        new Call("get(1, 1)", x -> x.get(1, 1), 2),
        new Call("modes()", x -> x.modes(), 3),
        new Call("support(2)", x -> x.support(2), 14),
        new Call("flux(2, 3)", x -> x.flux(2, 3), -1),
        new Call("turnable(0)", x -> x.turnable(0), 0),
        new Call("find(9)", x -> x.find(9), 1),
        new Call("carries(3, -1)", x -> x.carries(3, -1), 1),
        new Call("coupled(1, 2)", x -> x.coupled(1, 2), 1),
        new Call("without(0)", x -> x.without(0), 1),
        new Call("cutSize(0)", x -> x.cutSize(0), 2),
        new Call("yieldTop(0, 2)", x -> x.yieldTop(0, 2), 2),
        new Call("yieldBottom(0, 2)", x -> x.yieldBottom(0, 2), 1));

    private static final List<Call> BRANCH_REFUSED_QUESTIONS = List.of(
        new Call("get(2, 0)", x -> x.get(2, 0), -100),
        new Call("get(0, 4)", x -> x.get(0, 4), -100),
        new Call("support(3)", x -> x.support(3), -1),
        new Call("flux(3, 0)", x -> x.flux(3, 0), -1000000),
        new Call("flux(0, 4)", x -> x.flux(0, 4), -1000000),
        new Call("turnable(-1)", x -> x.turnable(-1), -1),
        new Call("find(15)", x -> x.find(15), -1),
        new Call("carries(4, 1)", x -> x.carries(4, 1), -1),
        new Call("carries(3, 0)", x -> x.carries(3, 0), -2),
        new Call("coupled(4, 0)", x -> x.coupled(4, 0), -1),
        new Call("coupled(0, 4)", x -> x.coupled(0, 4), -1),
        new Call("without(4)", x -> x.without(4), -1),
        new Call("cutSize(4)", x -> x.cutSize(4), -1),
        new Call("yieldTop(4, 0)", x -> x.yieldTop(4, 0), 0),
        new Call("yieldBottom(0, 4)", x -> x.yieldBottom(0, 4), 0));

    public static void main(String[] args) {
        firstState();
        goodNumbers();
        flowConditions();
        minimalFlows();
        commonDivisors();
        whichOfTwoFlows();
        numbering();
        largeValues();
        questionsChangeNothing();
        refusedCallsChangeNothing();
        lastCall();
        manyCalls();
        CHECK.finish();
    }

    private static void firstState() {
        FluxModeEnumerator x = new FluxModeEnumerator(4, 8);
        CHECK.about("Terms, the table is all 0 at first");
        for (int cell = 0; cell < 32; cell++) {
            CHECK.due("get of a new object", x.get(cell / 8, cell % 8), 0);
        }
        for (int j = 0; j < 8; j++) {
            CHECK.dueMode(x, j, unit(j));
        }
        CHECK.about("Terms, every reaction is one-way at first");
        for (int j = 0; j < 8; j++) {
            CHECK.due("carries(" + j + ", -1)", x.carries(j, -1), 0);
            CHECK.due("turnable(" + j + ")", x.turnable(j), 0);
            CHECK.due("twoWay(" + j + ", 1)", x.twoWay(j, 1), 0);
        }
        CHECK.about("Terms, every reaction is on at first");
        for (int j = 0; j < 8; j++) {
            CHECK.due("carries(" + j + ", 1)", x.carries(j, 1), 1);
            CHECK.due("turn(" + j + ", 0)", x.turn(j, 0), 1);
        }
    }

    private static int[] unit(int j) {
        int[] values = new int[8];
        values[j] = 1;
        return values;
    }

    /** That the numbers beside these are not good stands with the promises, in BoundaryTest. */
    private static void goodNumbers() {
        CHECK.about("Terms, the substances 0 .. m-1 are good");
        for (int m = 1; m <= 4; m++) {
            FluxModeEnumerator x = new FluxModeEnumerator(m, 2);
            for (int s = 0; s < m; s++) {
                CHECK.due("set(" + s + ", 1, 3)", x.set(s, 1, 3), 0);
                CHECK.due("get(" + s + ", 1)", x.get(s, 1), 3);
            }
        }
        CHECK.about("Terms, the reactions 0 .. r-1 are good");
        for (int r = 2; r <= 8; r++) {
            FluxModeEnumerator x = new FluxModeEnumerator(1, r);
            for (int j = 0; j < r; j++) {
                dueGoodReaction(x, r, j);
            }
        }
        CHECK.about("Terms, the modes 0 .. modes()-1 are good");
        FluxModeEnumerator x = Cases.mostModes();
        for (int i = 0; i < 70; i++) {
            int support = x.support(i);
            CHECK.due("reactions in support(" + i + ")", Integer.bitCount(support), 4);
            CHECK.due("turnable(" + i + ")", x.turnable(i), 1);
            int last = 31 - Integer.numberOfLeadingZeros(support);
            CHECK.due("flux(" + i + ", " + last + ") is good", x.flux(i, last) == -1000000 ? 0 : 1, 1);
        }
    }

    private static void dueGoodReaction(FluxModeEnumerator x, int r, int j) {
        CHECK.due("set(0, " + j + ", 0)", x.set(0, j, 0), 0);
        CHECK.due("get(0, " + j + ")", x.get(0, j), 0);
        CHECK.due("twoWay(" + j + ", 1)", x.twoWay(j, 1), 0);
        CHECK.due("turn(" + j + ", 1)", x.turn(j, 1), 1);
        CHECK.due("flux(" + j + ", " + j + ")", x.flux(j, j), 1);
        CHECK.due("carries(" + j + ", -1)", x.carries(j, -1), 1);
        CHECK.due("coupled(0, " + j + ")", x.coupled(0, j), j == 0 ? 1 : 0);
        CHECK.due("coupled(" + j + ", 0)", x.coupled(j, 0), j == 0 ? 1 : 0);
        CHECK.due("without(" + j + ")", x.without(j), r - 1);
        CHECK.due("cutSize(" + j + ")", x.cutSize(j), -2);
        CHECK.dueYield(x, j, 0, j == 0 ? 1 : 0, 1);
        CHECK.dueYield(x, 0, j, j == 0 ? 1 : 0, 1);
    }

    private static void flowConditions() {
        CHECK.about("Terms, every substance balances in a flow");
        FluxModeEnumerator x = Cases.made(Cases.row(1, -1, 0), Cases.row(0, 0, 1));
        CHECK.due("modes()", x.modes(), 1);
        CHECK.dueMode(x, 0, 1, 1, 0);
        x.set(1, 1, -2);
        CHECK.due("modes()", x.modes(), 1);
        CHECK.dueMode(x, 0, 1, 1, 2);
        CHECK.about("Terms, v(j) is not negative where j is one-way");
        FluxModeEnumerator y = Cases.made(Cases.row(1, 1, 0), Cases.row(0, 1, 1));
        CHECK.due("modes() with 1 -1 1", y.modes(), 0);
        y.twoWay(0, 1);
        CHECK.due("modes() with 1 -1 1, 0 two-way", y.modes(), 0);
        y.twoWay(2, 1);
        CHECK.due("modes() with 1 -1 1, 0 and 2 two-way", y.modes(), 1);
        CHECK.about("Terms, v(j) is 0 where j is off, be it one-way or two-way");
        FluxModeEnumerator z = Cases.branch();
        z.turn(3, 0);
        CHECK.due("modes() with 3 off", z.modes(), 1);
        CHECK.dueMode(z, 0, 1, 1, 2, 0);
        CHECK.due("twoWay(3, 0) while off", z.twoWay(3, 0), 1);
        CHECK.due("modes() with 3 off", z.modes(), 1);
        CHECK.due("turn(3, 1)", z.turn(3, 1), 0);
        CHECK.due("modes() with 3 one-way", z.modes(), 2);
        CHECK.due("turn(2, 0)", z.turn(2, 0), 1);
        CHECK.due("modes() with 2 off", z.modes(), 1);
        CHECK.dueMode(z, 0, 1, 0, 0, 1);
    }

    private static void minimalFlows() {
        CHECK.about("Terms, a flow that is all 0 is not minimal");
        FluxModeEnumerator none = Cases.still();
        CHECK.due("modes()", none.modes(), 0);
        CHECK.due("find(0)", none.find(0), -1);
        CHECK.due("find(0) of the branch", Cases.branch().find(0), -1);
        CHECK.about("Terms, a flow is not minimal if a proper part of its support is a support");
        FluxModeEnumerator x = Cases.made(Cases.row(1, -1, 0, 0));
        int[] supports = {3, 4, 8};
        CHECK.due("modes()", x.modes(), 3);
        for (int i = 0; i < 3; i++) {
            CHECK.due("support(" + i + ")", x.support(i), supports[i]);
        }
        CHECK.about("Terms, a part of the support that has no flow does not count");
        FluxModeEnumerator y = Cases.made(Cases.row(1, 1, -1));
        CHECK.due("find(3)", y.find(3), -1);
        CHECK.due("find(5)", y.find(5), 0);
        CHECK.due("find(6)", y.find(6), 1);
        CHECK.due("find(7)", y.find(7), -1);
        y.twoWay(1, 1);
        CHECK.due("find(3) with 1 two-way", y.find(3), 0);
    }

    private static void commonDivisors() {
        CHECK.about("Terms, the values of a mode have no common divisor greater than 1");
        CHECK.dueMode(Cases.made(Cases.row(2, -2)), 0, 1, 1);
        CHECK.dueMode(Cases.made(Cases.row(3, -3)), 0, 1, 1);
        CHECK.dueMode(Cases.made(Cases.row(2, -3)), 0, 3, 2);
        CHECK.dueMode(Cases.made(Cases.row(0, 0)), 0, 1, 0);
        CHECK.dueMode(Cases.made(Cases.row(2, -1, 0), Cases.row(3, 0, -2)), 0, 2, 4, 3);
        CHECK.dueMode(Cases.made(Cases.row(2, -2, 0), Cases.row(0, 2, -2)), 0, 1, 1, 1);
        CHECK.dueMode(Cases.madeTwoWay(Cases.row(3, 3, 0), Cases.row(0, 3, 3)), 0, 1, -1, 1);
    }

    private static void whichOfTwoFlows() {
        CHECK.about("Terms, of v and -v the one counts whose first value that is not 0 is positive");
        CHECK.dueMode(Cases.madeTwoWay(Cases.row(1, 1)), 0, 1, -1);
        CHECK.dueMode(Cases.madeTwoWay(Cases.row(-1, -1)), 0, 1, -1);
        CHECK.dueMode(Cases.madeTwoWay(Cases.row(1, -1)), 0, 1, 1);
        CHECK.dueMode(Cases.madeTwoWay(Cases.row(1, 0, 0), Cases.row(0, 2, 3)), 0, 0, 3, -2);
        CHECK.dueMode(Cases.madeTwoWay(Cases.row(1, 0, 0), Cases.row(0, -2, -3)), 0, 0, 3, -2);
        CHECK.dueMode(Cases.madeTwoWay(Cases.row(1, 1, 0), Cases.row(0, 1, 1)), 0, 1, -1, 1);
        CHECK.about("Terms, if only one of v and -v is a flow, it counts whatever its first value is");
        FluxModeEnumerator x = Cases.made(Cases.row(1, 1, 0), Cases.row(0, 1, 1));
        x.twoWay(0, 1);
        x.twoWay(2, 1);
        CHECK.due("modes()", x.modes(), 1);
        CHECK.dueMode(x, 0, -1, 1, -1);
        CHECK.due("turnable(0)", x.turnable(0), 0);
        x.twoWay(1, 1);
        CHECK.dueMode(x, 0, 1, -1, 1);
        CHECK.due("turnable(0)", x.turnable(0), 1);
        x.twoWay(2, 0);
        CHECK.dueMode(x, 0, 1, -1, 1);
        CHECK.due("turnable(0)", x.turnable(0), 0);
    }

    private static void numbering() {
        CHECK.about("Terms, the modes are numbered in rising order of their supports, one for each");
        FluxModeEnumerator x = Cases.mostModes();
        int i = 0;
        for (int support = 1; support < 256; support++) {
            if (Integer.bitCount(support) == 4) {
                CHECK.due("support(" + i + ")", x.support(i), support);
                CHECK.due("find(" + support + ")", x.find(support), i);
                i++;
            }
        }
        CHECK.due("modes()", x.modes(), i);
        CHECK.about("Terms, a support with more reactions may come before one with fewer");
        FluxModeEnumerator y = Cases.made(Cases.row(1, -1, 0, 0, -2), Cases.row(0, 1, -1, 0, 0));
        int[] supports = {7, 8, 17};
        for (int k = 0; k < 3; k++) {
            CHECK.due("support(" + k + ")", y.support(k), supports[k]);
        }
        CHECK.about("Terms, the modes are numbered anew after a change");
        y.turn(1, 0);
        CHECK.due("find(8)", y.find(8), 0);
        CHECK.due("find(17)", y.find(17), 1);
        y.turn(1, 1);
        CHECK.due("find(8)", y.find(8), 1);
        CHECK.due("find(17)", y.find(17), 2);
    }

    private static void largeValues() {
        CHECK.about("Terms, the values of modes are exact however large");
        FluxModeEnumerator x = Cases.madeTwoWay(
            Cases.row(3, -3, 3, 2, -3), Cases.row(-3, -2, 3, -3, 3),
            Cases.row(-3, -3, -2, 3, -3), Cases.row(3, -3, -3, -3, 1));
        CHECK.due("modes()", x.modes(), 1);
        CHECK.dueMode(x, 0, 217, -276, -78, 912, 1023);
        CHECK.dueYield(x, 3, 4, 341, 304);
        CHECK.dueYield(x, 4, 0, 7, 33);
    }

    private static void questionsChangeNothing() {
        CHECK.about("Terms, no question changes anything");
        for (Call question : BRANCH_QUESTIONS) {
            dueUnchanged(Cases::branch, 2, 4, question);
        }
        for (Call question : BRANCH_REFUSED_QUESTIONS) {
            dueUnchanged(Cases::branch, 2, 4, question);
        }
        FluxModeEnumerator x = Cases.branch();
        List<String> first = Snapshot.ofQuestions(x, 2, 4);
        dueSame("all questions a second time", Snapshot.ofQuestions(x, 2, 4), first);
    }

    private static void refusedCallsChangeNothing() {
        CHECK.about("Terms, a refused set changes nothing");
        for (int wrong : new int[] {-1, -2, 2, 3, 4, 1 << 29, Integer.MIN_VALUE}) {
            dueUnchanged(Cases::branch, 2, 4, new Call("set(" + wrong + ", 2, 3)", x -> x.set(wrong, 2, 3), -1));
        }
        for (int wrong : new int[] {-1, -4, -8, 4, 7, 8, 1 << 29, Integer.MIN_VALUE}) {
            dueUnchanged(Cases::branch, 2, 4, new Call("set(1, " + wrong + ", 3)", x -> x.set(1, wrong, 3), -2));
        }
        for (int wrong : new int[] {-4, 4, 256, 259, Integer.MIN_VALUE, Integer.MAX_VALUE}) {
            dueUnchanged(Cases::branch, 2, 4, new Call("set(1, 1, " + wrong + ")", x -> x.set(1, 1, wrong), -3));
        }
        for (Call refused : refusedNearOtherCells()) {
            dueUnchanged(TermsTest::full, 4, 8, refused);
        }
        CHECK.about("Terms, a refused twoWay changes nothing");
        for (int wrong : Cases.wrong(4)) {
            dueUnchanged(Cases::branch, 2, 4, new Call("twoWay(" + wrong + ", 1)", x -> x.twoWay(wrong, 1), -1));
            dueUnchanged(Cases::branch, 2, 4, new Call("twoWay(" + wrong + ", 0)", x -> x.twoWay(wrong, 0), -1));
        }
        CHECK.about("Terms, a refused turn changes nothing");
        for (int wrong : Cases.wrong(4)) {
            dueUnchanged(TermsTest::halfOff, 2, 4, new Call("turn(" + wrong + ", 0)", x -> x.turn(wrong, 0), -1));
            dueUnchanged(TermsTest::halfOff, 2, 4, new Call("turn(" + wrong + ", 1)", x -> x.turn(wrong, 1), -1));
        }
    }

    /** Numbers that are not good, but would meet another cell of a table that is kept in one row. */
    private static List<Call> refusedNearOtherCells() {
        List<Call> calls = new ArrayList<>();
        calls.add(new Call("set(-1, 8, 3)", x -> x.set(-1, 8, 3), -1));
        calls.add(new Call("set(4, -8, 3)", x -> x.set(4, -8, 3), -1));
        calls.add(new Call("set(4, -1, 3)", x -> x.set(4, -1, 3), -1));
        calls.add(new Call("set(0, 8, 3)", x -> x.set(0, 8, 3), -2));
        calls.add(new Call("set(2, 9, 1)", x -> x.set(2, 9, 1), -2));
        calls.add(new Call("set(1, -1, 3)", x -> x.set(1, -1, 3), -2));
        calls.add(new Call("set(3, -8, 2)", x -> x.set(3, -8, 2), -2));
        return calls;
    }

    private static FluxModeEnumerator full() {
        FluxModeEnumerator x = Cases.made(
            Cases.row(1, -1, 0, 0, 0, 0, -1, 2), Cases.row(0, 2, -1, 0, -1, 0, 0, 1),
            Cases.row(0, 0, 3, -2, 0, 0, 0, 0), Cases.row(0, 0, 0, 1, 1, -1, 0, -3));
        x.twoWay(4, 1);
        x.twoWay(6, 1);
        x.turn(7, 0);
        return x;
    }

    private static FluxModeEnumerator halfOff() {
        FluxModeEnumerator x = Cases.branch();
        x.turn(0, 0);
        x.turn(2, 0);
        return x;
    }

    /** Compares an object that got the call with a twin that did not. */
    private static void dueUnchanged(Supplier<FluxModeEnumerator> source, int substances, int reactions, Call call) {
        FluxModeEnumerator asked = source.get();
        call.ask(asked, "");
        dueSame("questions after " + call.name, Snapshot.ofQuestions(asked, substances, reactions),
            Snapshot.ofQuestions(source.get(), substances, reactions));
        // A new pair: a question that changes something would hide it by changing the twin too.
        FluxModeEnumerator askedOnce = source.get();
        call.ask(askedOnce, "");
        dueSame("ways after " + call.name, Snapshot.ofWays(askedOnce, reactions),
            Snapshot.ofWays(source.get(), reactions));
    }

    private static void dueSame(String name, List<String> got, List<String> want) {
        CHECK.due(name + ": " + got + " against " + want, got.equals(want) ? 1 : 0, 1);
    }

    private static void lastCall() {
        CHECK.about("What it is, the 512th call is answered as the first");
        for (Call question : BRANCH_QUESTIONS) {
            question.ask(branchBeforeLastCall(), " as the 512th call");
        }
        for (Call question : BRANCH_REFUSED_QUESTIONS) {
            question.ask(branchBeforeLastCall(), " as the 512th call");
        }
        CHECK.due("set as the 512th call", branchBeforeLastCall().set(1, 3, 3), 0);
        CHECK.due("refused set as the 512th call", branchBeforeLastCall().set(1, 3, 4), -3);
        CHECK.due("twoWay as the 512th call", branchBeforeLastCall().twoWay(3, 0), 1);
        CHECK.due("turn as the 512th call", branchBeforeLastCall().turn(2, 0), 1);
    }

    /** The branch after 511 calls: nine make it, and 251 pairs turn a reaction off and on again. */
    private static FluxModeEnumerator branchBeforeLastCall() {
        FluxModeEnumerator x = Cases.branch();
        for (int pair = 0; pair < 251; pair++) {
            x.turn(pair % 4, 0);
            x.turn(pair % 4, 1);
        }
        return x;
    }

    private static void manyCalls() {
        CHECK.about("What it is, 512 changes and questions in turn");
        FluxModeEnumerator x = new FluxModeEnumerator(1, 2);
        for (int call = 0; call < CALLS; call += 2) {
            int value = call / 2 % 7 - 3;
            CHECK.due("set(0, 0, " + value + ")", x.set(0, 0, value), 0);
            CHECK.due("modes()", x.modes(), value == 0 ? 2 : 1);
        }
        CHECK.about("What it is, 512 changes of the largest object");
        FluxModeEnumerator large = new FluxModeEnumerator(4, 8);
        for (int call = 0; call < CALLS; call++) {
            CHECK.due("twoWay(" + call % 8 + ", 1)", large.twoWay(call % 8, 1), call < 8 ? 0 : 1);
        }
        CHECK.about("What it is, 512 questions");
        FluxModeEnumerator asked = new FluxModeEnumerator(4, 8);
        for (int call = 0; call < CALLS; call++) {
            CHECK.due("cutSize(" + call % 8 + ")", asked.cutSize(call % 8), -2);
        }
        CHECK.about("What it is, 512 refused calls");
        FluxModeEnumerator refused = new FluxModeEnumerator(4, 8);
        for (int call = 0; call < CALLS - 1; call++) {
            CHECK.due("set(4, 0, 1)", refused.set(4, 0, 1), -1);
        }
        CHECK.due("modes()", refused.modes(), 8);
    }
}
