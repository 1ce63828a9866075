/** The promises one by one: ordinary inputs, the edges that the document names, and wrong inputs. */
public final class PromiseTest {
    private static final Check CHECK = new Check();
    private static final int MIN = Integer.MIN_VALUE;
    private static final int MAX = Integer.MAX_VALUE;

    public static void main(String[] args) {
        promise1NewObject();
        promise1FirstState();
        promise2Set();
        promise3Get();
        promise4TwoWay();
        promise5Turn();
        promise6Modes();
        promise7Support();
        promise8Flux();
        promise8Sign();
        promise8LargeValues();
        promise9Turnable();
        promise10Find();
        promise11Carries();
        promise12Coupled();
        promise13Without();
        promise14CutSize();
        promise15And16Yield();
        promise15And16Sign();
        refusedCallsChangeNothing();
        lastCallsOfAnObject();
        CHECK.finish();
    }

    /** An object with one row for each substance. */
    private static FluxModeEnumerator made(int[]... rows) {
        FluxModeEnumerator x = new FluxModeEnumerator(rows.length, rows[0].length);
        for (int s = 0; s < rows.length; s++) {
            for (int j = 0; j < rows[s].length; j++) {
                CHECK.due("set(" + s + ", " + j + ", " + rows[s][j] + ")", x.set(s, j, rows[s][j]), 0);
            }
        }
        return x;
    }

    private static int[] row(int... values) {
        return values;
    }

    /** 0 brings A, 1 makes two B of one A, 2 takes B away, 3 takes A away or brings it: modes 7, 9 and 14. */
    private static FluxModeEnumerator branch() {
        FluxModeEnumerator x = made(row(1, -1, 0, -1), row(0, 2, -1, 0));
        x.twoWay(3, 1);
        return x;
    }

    private static void dueMode(FluxModeEnumerator x, int i, int... values) {
        CHECK.due("support(" + i + ")", x.support(i), Network.supportOf(values));
        for (int j = 0; j < values.length; j++) {
            CHECK.due("flux(" + i + ", " + j + ")", x.flux(i, j), values[j]);
        }
    }

    private static void dueYield(FluxModeEnumerator x, int a, int b, int top, int bottom) {
        CHECK.due("yieldTop(" + a + ", " + b + ")", x.yieldTop(a, b), top);
        CHECK.due("yieldBottom(" + a + ", " + b + ")", x.yieldBottom(a, b), bottom);
    }

    private static void dueSize(int substances, int reactions, int m, int r) {
        FluxModeEnumerator x = new FluxModeEnumerator(substances, reactions);
        String name = "new (" + substances + ", " + reactions + ") ";
        CHECK.due(name + "last cell", x.get(m - 1, r - 1), 0);
        CHECK.due(name + "substance after the last", x.get(m, 0), -100);
        CHECK.due(name + "reaction after the last", x.get(0, r), -100);
        CHECK.due(name + "set at the last cell", x.set(m - 1, r - 1, 1), 0);
        CHECK.due(name + "set after the last substance", x.set(m, 0, 1), -1);
        CHECK.due(name + "set after the last reaction", x.set(0, r, 1), -2);
        CHECK.due(name + "modes", x.modes(), r - 1);
    }

    private static void promise1NewObject() {
        for (int m = 1; m <= 4; m++) {
            for (int r = 2; r <= 8; r++) {
                dueSize(m, r, m, r);
            }
        }
        dueSize(0, 1, 1, 2);
        dueSize(-1, 0, 1, 2);
        dueSize(MIN, MIN, 1, 2);
        dueSize(5, 9, 4, 8);
        dueSize(MAX, MAX, 4, 8);
        dueSize(0, 9, 1, 8);
        dueSize(5, 1, 4, 2);
    }

    private static void promise1FirstState() {
        FluxModeEnumerator x = new FluxModeEnumerator(4, 8);
        for (int j = 0; j < 8; j++) {
            for (int s = 0; s < 4; s++) {
                CHECK.due("get of a new object", x.get(s, j), 0);
            }
            CHECK.due("carries back in a new object", x.carries(j, -1), 0);
            CHECK.due("turnable in a new object", x.turnable(j), 0);
            CHECK.due("first twoWay", x.twoWay(j, 0), 0);
            CHECK.due("first turn", x.turn(j, 1), 1);
        }
        CHECK.due("modes of a new object", x.modes(), 8);
        for (int i = 0; i < 8; i++) {
            CHECK.due("support of a new object", x.support(i), 1 << i);
            CHECK.due("flux of a new object", x.flux(i, i), 1);
        }
    }

    private static void promise2Set() {
        FluxModeEnumerator x = new FluxModeEnumerator(2, 3);
        for (int value = -3; value <= 3; value++) {
            CHECK.due("set(1, 2, " + value + ")", x.set(1, 2, value), 0);
            CHECK.due("get(1, 2)", x.get(1, 2), value);
        }
        int[] wrongValues = {-4, 4, MIN, MAX};
        for (int value : wrongValues) {
            CHECK.due("set(0, 0, " + value + ")", x.set(0, 0, value), -3);
        }
        int[] wrongNumbers = {-1, 3, MIN, MAX};
        for (int wrong : wrongNumbers) {
            CHECK.due("set(" + wrong + ", 0, 1)", x.set(wrong, 0, 1), -1);
            CHECK.due("set(" + wrong + ", 9, 9)", x.set(wrong, 9, 9), -1);
            CHECK.due("set(0, " + wrong + ", 1)", x.set(0, wrong, 1), -2);
            CHECK.due("set(0, " + wrong + ", 4)", x.set(0, wrong, 4), -2);
        }
        CHECK.due("set(2, 0, 1)", x.set(2, 0, 1), -1);
        CHECK.due("modes()", x.modes(), 2);
        CHECK.due("set(1, 2, 0)", x.set(1, 2, 0), 0);
        CHECK.due("modes()", x.modes(), 3);
    }

    private static void promise3Get() {
        FluxModeEnumerator x = new FluxModeEnumerator(4, 8);
        for (int s = 0; s < 4; s++) {
            for (int j = 0; j < 8; j++) {
                x.set(s, j, (3 * s + j) % 7 - 3);
            }
        }
        for (int s = 0; s < 4; s++) {
            for (int j = 0; j < 8; j++) {
                CHECK.due("get(" + s + ", " + j + ")", x.get(s, j), (3 * s + j) % 7 - 3);
            }
        }
        int[] wrongNumbers = {-1, 8, MIN, MAX};
        for (int wrong : wrongNumbers) {
            CHECK.due("get(" + wrong + ", 0)", x.get(wrong, 0), -100);
            CHECK.due("get(0, " + wrong + ")", x.get(0, wrong), -100);
            CHECK.due("get(" + wrong + ", " + wrong + ")", x.get(wrong, wrong), -100);
        }
        CHECK.due("get(4, 0)", x.get(4, 0), -100);
        CHECK.due("get(1, -8)", x.get(1, -8), -100);
    }

    private static void promise4TwoWay() {
        FluxModeEnumerator x = made(row(1, 1));
        CHECK.due("modes()", x.modes(), 0);
        CHECK.due("twoWay(1, -5)", x.twoWay(1, -5), 0);
        CHECK.due("modes()", x.modes(), 1);
        CHECK.due("twoWay(1, MIN)", x.twoWay(1, MIN), 1);
        CHECK.due("modes()", x.modes(), 1);
        CHECK.due("twoWay(1, 0)", x.twoWay(1, 0), 1);
        CHECK.due("modes()", x.modes(), 0);
        CHECK.due("twoWay(1, 0)", x.twoWay(1, 0), 0);
        CHECK.due("twoWay(0, 2)", x.twoWay(0, 2), 0);
        CHECK.due("twoWay(1, 0)", x.twoWay(1, 0), 0);
        int[] wrongNumbers = {-1, 2, 8, 32, MIN, MAX};
        for (int wrong : wrongNumbers) {
            CHECK.due("twoWay(" + wrong + ", 1)", x.twoWay(wrong, 1), -1);
            CHECK.due("twoWay(" + wrong + ", 0)", x.twoWay(wrong, 0), -1);
        }
        CHECK.due("turn(0, 0)", x.turn(0, 0), 1);
        CHECK.due("twoWay(0, 1) while off", x.twoWay(0, 1), 1);
    }

    private static void promise5Turn() {
        FluxModeEnumerator x = branch();
        CHECK.due("turn(3, 0)", x.turn(3, 0), 1);
        CHECK.due("modes()", x.modes(), 1);
        CHECK.due("turn(3, 0)", x.turn(3, 0), 0);
        CHECK.due("turn(3, -2)", x.turn(3, -2), 0);
        CHECK.due("modes()", x.modes(), 3);
        CHECK.due("turn(3, MIN)", x.turn(3, MIN), 1);
        CHECK.due("twoWay(3, 1) after off and on", x.twoWay(3, 1), 1);
        int[] wrongNumbers = {-1, 4, 8, 32, MIN, MAX};
        for (int wrong : wrongNumbers) {
            CHECK.due("turn(" + wrong + ", 0)", x.turn(wrong, 0), -1);
            CHECK.due("turn(" + wrong + ", 1)", x.turn(wrong, 1), -1);
        }
        CHECK.due("modes()", x.modes(), 3);
        CHECK.due("set of a reaction that is off", x.turn(0, 0) + x.set(0, 0, 0), 1);
        CHECK.due("modes()", x.modes(), 1);
        CHECK.due("turn(0, 1)", x.turn(0, 1), 0);
        CHECK.due("find(1)", x.find(1), 0);
    }

    private static void promise6Modes() {
        CHECK.due("modes() of the branch", branch().modes(), 3);
        CHECK.due("modes() where nothing balances", made(row(1, 1, 2)).modes(), 0);
        CHECK.due("modes() of three against three", made(row(1, 2, 3, -1, -2, -3)).modes(), 9);
        FluxModeEnumerator x = made(row(1, -1, 1, -1), row(1, -1, 1, -1));
        CHECK.due("modes() with a row twice", x.modes(), 4);
        for (int j = 0; j < 4; j++) {
            x.turn(j, 0);
        }
        CHECK.due("modes() with all off", x.modes(), 0);
    }

    private static void promise7Support() {
        FluxModeEnumerator x = branch();
        CHECK.due("support(0)", x.support(0), 7);
        CHECK.due("support(1)", x.support(1), 9);
        CHECK.due("support(2)", x.support(2), 14);
        int[] wrongNumbers = {-1, 3, 255, 256, MIN, MAX};
        for (int wrong : wrongNumbers) {
            CHECK.due("support(" + wrong + ")", x.support(wrong), -1);
        }
        x.turn(0, 0);
        CHECK.due("support(0)", x.support(0), 14);
        CHECK.due("support(1)", x.support(1), -1);
    }

    private static void promise8Flux() {
        FluxModeEnumerator x = branch();
        dueMode(x, 0, 1, 1, 2, 0);
        dueMode(x, 1, 1, 0, 0, 1);
        dueMode(x, 2, 0, 1, 2, -1);
        int[] wrongNumbers = {-1, 4, 256, MIN, MAX};
        for (int wrong : wrongNumbers) {
            CHECK.due("flux(" + wrong + ", 0)", x.flux(wrong, 0), -1000000);
            CHECK.due("flux(0, " + wrong + ")", x.flux(0, wrong), -1000000);
        }
        CHECK.due("flux(3, 0)", x.flux(3, 0), -1000000);
        dueMode(made(row(2, -2)), 0, 1, 1);
        dueMode(made(row(2, -3)), 0, 3, 2);
        dueMode(made(row(1, 3, -3)), 1, 0, 1, 1);
        dueMode(made(row(2, -1, 0), row(3, 0, -2)), 0, 2, 4, 3);
    }

    /** Of v and -v the one that is a flow counts, and the first value decides only if both are. */
    private static void promise8Sign() {
        FluxModeEnumerator x = made(row(1, 1));
        x.twoWay(0, 1);
        dueMode(x, 0, -1, 1);
        x.twoWay(1, 1);
        dueMode(x, 0, 1, -1);
        x.twoWay(0, 0);
        dueMode(x, 0, 1, -1);
        FluxModeEnumerator y = made(row(0, 2, 3));
        y.twoWay(1, 1);
        y.twoWay(2, 1);
        dueMode(y, 1, 0, 3, -2);
        FluxModeEnumerator z = made(row(1, 1, 0), row(0, 1, 1));
        z.twoWay(1, 1);
        dueMode(z, 0, 1, -1, 1);
        z.twoWay(1, 0);
        z.twoWay(0, 1);
        CHECK.due("modes() with one-way values of both signs", z.modes(), 0);
        z.twoWay(2, 1);
        dueMode(z, 0, -1, 1, -1);
    }

    private static void promise8LargeValues() {
        FluxModeEnumerator x = made(
            row(3, -3, 3, 2, -3), row(-3, -2, 3, -3, 3), row(-3, -3, -2, 3, -3), row(3, -3, -3, -3, 1));
        for (int j = 0; j < 5; j++) {
            x.twoWay(j, 1);
        }
        CHECK.due("modes()", x.modes(), 1);
        dueMode(x, 0, 217, -276, -78, 912, 1023);
        dueYield(x, 3, 4, 341, 304);
    }

    private static void promise9Turnable() {
        FluxModeEnumerator x = made(row(1, -1, 0), row(0, 0, 0));
        CHECK.due("turnable(0)", x.turnable(0), 0);
        x.twoWay(0, 1);
        CHECK.due("turnable(0)", x.turnable(0), 0);
        x.twoWay(1, 1);
        CHECK.due("turnable(0)", x.turnable(0), 1);
        CHECK.due("turnable(1)", x.turnable(1), 0);
        x.twoWay(2, 1);
        CHECK.due("turnable(1)", x.turnable(1), 1);
        int[] wrongNumbers = {-1, 2, 256, MIN, MAX};
        for (int wrong : wrongNumbers) {
            CHECK.due("turnable(" + wrong + ")", x.turnable(wrong), -1);
        }
        x.turn(0, 0);
        CHECK.due("turnable(1) of one mode", x.turnable(1), -1);
    }

    private static void promise10Find() {
        FluxModeEnumerator x = branch();
        CHECK.due("find(7)", x.find(7), 0);
        CHECK.due("find(9)", x.find(9), 1);
        CHECK.due("find(14)", x.find(14), 2);
        int[] none = {0, 1, 6, 8, 15, 16, 23, 256 + 7, -1, MIN, MAX};
        for (int support : none) {
            CHECK.due("find(" + support + ")", x.find(support), -1);
        }
        x.turn(1, 0);
        CHECK.due("find(9)", x.find(9), 0);
        CHECK.due("find(7)", x.find(7), -1);
        CHECK.due("find(14)", x.find(14), -1);
    }

    private static void promise11Carries() {
        FluxModeEnumerator x = branch();
        for (int j = 0; j < 4; j++) {
            CHECK.due("carries(" + j + ", 1)", x.carries(j, 1), 1);
            CHECK.due("carries(" + j + ", -1)", x.carries(j, -1), j == 3 ? 1 : 0);
            CHECK.due("carries(" + j + ", 0)", x.carries(j, 0), -2);
        }
        CHECK.due("carries(3, MIN)", x.carries(3, MIN), 1);
        CHECK.due("carries(3, MAX)", x.carries(3, MAX), 1);
        CHECK.due("carries(0, MIN)", x.carries(0, MIN), 0);
        int[] wrongNumbers = {-1, 4, MIN, MAX};
        for (int wrong : wrongNumbers) {
            CHECK.due("carries(" + wrong + ", 1)", x.carries(wrong, 1), -1);
            CHECK.due("carries(" + wrong + ", 0)", x.carries(wrong, 0), -1);
        }
        x.turn(0, 0);
        CHECK.due("carries(3, 1)", x.carries(3, 1), 0);
        CHECK.due("carries(3, -1)", x.carries(3, -1), 1);
        CHECK.due("carries(0, 1) while off", x.carries(0, 1), 0);
        x.turn(0, 1);
        x.turn(2, 0);
        CHECK.due("carries(1, 1) without a way out", x.carries(1, 1), 0);
        FluxModeEnumerator y = made(row(1, 1));
        y.twoWay(0, 1);
        y.twoWay(1, 1);
        for (int j = 0; j < 2; j++) {
            CHECK.due("carries(" + j + ", 1)", y.carries(j, 1), 1);
            CHECK.due("carries(" + j + ", -1)", y.carries(j, -1), 1);
        }
    }

    private static void promise12Coupled() {
        FluxModeEnumerator x = branch();
        CHECK.due("coupled(1, 2)", x.coupled(1, 2), 1);
        CHECK.due("coupled(2, 1)", x.coupled(2, 1), 1);
        CHECK.due("coupled(0, 1)", x.coupled(0, 1), 0);
        CHECK.due("coupled(1, 0)", x.coupled(1, 0), 0);
        CHECK.due("coupled(0, 0)", x.coupled(0, 0), 1);
        int[] wrongNumbers = {-1, 4, 32, MIN, MAX};
        for (int wrong : wrongNumbers) {
            CHECK.due("coupled(" + wrong + ", 0)", x.coupled(wrong, 0), -1);
            CHECK.due("coupled(0, " + wrong + ")", x.coupled(0, wrong), -1);
        }
        x.turn(3, 0);
        CHECK.due("coupled(0, 1)", x.coupled(0, 1), 1);
        CHECK.due("coupled(0, 3)", x.coupled(0, 3), 0);
        CHECK.due("coupled(3, 0)", x.coupled(3, 0), -2);
        CHECK.due("coupled(3, 3)", x.coupled(3, 3), -2);
        CHECK.due("coupled(3, 4)", x.coupled(3, 4), -1);
        FluxModeEnumerator y = made(row(1, -1, -1));
        CHECK.due("one direction: coupled(1, 0)", y.coupled(1, 0), 1);
        CHECK.due("one direction: coupled(0, 1)", y.coupled(0, 1), 0);
    }

    private static void promise13Without() {
        FluxModeEnumerator x = branch();
        int[] left = {1, 1, 1, 1};
        for (int j = 0; j < 4; j++) {
            CHECK.due("without(" + j + ")", x.without(j), left[j]);
        }
        CHECK.due("modes()", x.modes(), 3);
        int[] wrongNumbers = {-1, 4, 32, MIN, MAX};
        for (int wrong : wrongNumbers) {
            CHECK.due("without(" + wrong + ")", x.without(wrong), -1);
        }
        x.turn(3, 0);
        CHECK.due("without(3) while off", x.without(3), 1);
        CHECK.due("without(0)", x.without(0), 0);
        FluxModeEnumerator y = made(row(1, 2, 3, -1, -2));
        CHECK.due("without(0)", y.without(0), 4);
        CHECK.due("without(4)", y.without(4), 3);
    }

    private static void promise14CutSize() {
        FluxModeEnumerator x = branch();
        CHECK.due("cutSize(0)", x.cutSize(0), 2);
        CHECK.due("cutSize(1)", x.cutSize(1), 1);
        CHECK.due("cutSize(2)", x.cutSize(2), 1);
        CHECK.due("cutSize(3)", x.cutSize(3), 2);
        int[] wrongNumbers = {-1, 4, 32, MIN, MAX};
        for (int wrong : wrongNumbers) {
            CHECK.due("cutSize(" + wrong + ")", x.cutSize(wrong), -1);
        }
        x.turn(1, 0);
        CHECK.due("cutSize(0)", x.cutSize(0), 1);
        CHECK.due("cutSize(1) while off", x.cutSize(1), 0);
        CHECK.due("cutSize(2) without a way in", x.cutSize(2), 0);
        FluxModeEnumerator y = made(row(1, -1, -2, -3, -1, -2, -3, 0));
        CHECK.due("cutSize(0) against six", y.cutSize(0), 6);
        CHECK.due("cutSize(6)", y.cutSize(6), 1);
        CHECK.due("cutSize(7) alone", y.cutSize(7), -2);
        y.turn(7, 0);
        CHECK.due("cutSize(7) alone and off", y.cutSize(7), 0);
        y.set(0, 7, -1);
        y.turn(7, 1);
        CHECK.due("cutSize(0) against seven", y.cutSize(0), 7);
    }

    private static void promise15And16Yield() {
        FluxModeEnumerator x = made(row(1, -2, -3));
        dueYield(x, 0, 1, 1, 2);
        dueYield(x, 0, 2, 1, 3);
        dueYield(x, 1, 0, 2, 1);
        dueYield(x, 2, 0, 3, 1);
        dueYield(x, 1, 2, 0, 1);
        dueYield(x, 1, 1, 1, 1);
        int[] wrongNumbers = {-1, 3, 32, MIN, MAX};
        for (int wrong : wrongNumbers) {
            dueYield(x, wrong, 0, 0, 0);
            dueYield(x, 0, wrong, 0, 0);
            dueYield(x, wrong, wrong, 0, 0);
        }
        x.turn(1, 0);
        dueYield(x, 1, 0, 0, 0);
        dueYield(x, 1, 1, 0, 0);
        dueYield(x, 0, 1, 0, 1);
        FluxModeEnumerator y = made(row(2, -1, 0), row(3, 0, -2));
        dueYield(y, 0, 1, 2, 1);
        dueYield(y, 1, 0, 1, 2);
        dueYield(y, 0, 2, 3, 2);
        dueYield(y, 1, 2, 3, 4);
        FluxModeEnumerator z = made(row(3, -2, -1), row(0, 1, -1));
        dueYield(z, 0, 1, 1, 1);
    }

    private static void promise15And16Sign() {
        FluxModeEnumerator x = made(row(2, 3));
        x.twoWay(0, 1);
        dueYield(x, 0, 1, 0, 0);
        dueYield(x, 1, 0, -3, 2);
        x.twoWay(1, 1);
        dueYield(x, 0, 1, -2, 3);
        dueYield(x, 1, 0, -3, 2);
        FluxModeEnumerator y = made(row(1, 0, 2, 3), row(0, 1, -2, -1));
        for (int j = 0; j < 4; j++) {
            y.twoWay(j, 1);
        }
        dueMode(y, 0, 2, -2, -1, 0);
        dueMode(y, 1, 3, -1, 0, -1);
        dueMode(y, 2, 4, 0, 1, -2);
        dueMode(y, 3, 0, 4, 3, -2);
        dueYield(y, 2, 1, 2, 1);
        dueYield(y, 2, 0, 4, 1);
        dueYield(y, 1, 3, 1, 1);
        dueYield(y, 3, 2, 0, 1);
        y.turn(2, 0);
        dueYield(y, 0, 1, -1, 3);
        dueYield(y, 1, 0, -3, 1);
    }

    private static void refusedCallsChangeNothing() {
        FluxModeEnumerator x = branch();
        x.set(2, 0, 1);
        x.set(-1, 3, 1);
        x.set(0, 4, 1);
        x.set(0, -1, 1);
        x.set(1, 1, 4);
        x.set(1, 1, -4);
        x.twoWay(4, 1);
        x.twoWay(-1, 1);
        x.twoWay(32, 1);
        x.turn(4, 0);
        x.turn(-1, 0);
        x.turn(32, 0);
        int[][] rows = {row(1, -1, 0, -1), row(0, 2, -1, 0)};
        for (int s = 0; s < 2; s++) {
            for (int j = 0; j < 4; j++) {
                CHECK.due("get(" + s + ", " + j + ")", x.get(s, j), rows[s][j]);
            }
        }
        CHECK.due("modes()", x.modes(), 3);
        dueMode(x, 2, 0, 1, 2, -1);
        for (int j = 0; j < 4; j++) {
            CHECK.due("turn(" + j + ", 1)", x.turn(j, 1), 1);
            CHECK.due("twoWay(" + j + ", 0)", x.twoWay(j, 0), j == 3 ? 1 : 0);
        }
    }

    private static void lastCallsOfAnObject() {
        FluxModeEnumerator x = new FluxModeEnumerator(1, 2);
        for (int pair = 0; pair < 256; pair++) {
            int value = pair % 7 - 3;
            CHECK.due("set(0, 0, " + value + ")", x.set(0, 0, value), 0);
            CHECK.due("modes()", x.modes(), value == 0 ? 2 : 1);
        }
    }
}
