/** The boundary cases that the promises name: one test for each sentence. */
public final class BoundaryTest {
    private static final Check CHECK = new Check();
    private static final int MIN = Integer.MIN_VALUE;
    private static final int MAX = Integer.MAX_VALUE;
    private static final int[] FLAGS_NOT_0 = {1, -1, 2, -2, 3, 4, 8, 256, 1 << 16, 1 << 30, MIN, MIN + 1, MAX};

    public static void main(String[] args) {
        newObject();
        set();
        get();
        twoWay();
        turn();
        modes();
        support();
        flux();
        turnable();
        find();
        carries();
        coupled();
        without();
        cutSize();
        yieldOfWrongNumbers();
        yieldWithoutFlow();
        yieldWholeNumbers();
        CHECK.finish();
    }

    private static void newObject() {
        CHECK.about("Promise 1, substances below 1 becomes 1");
        for (int substances : new int[] {0, -1, -2, -4, MIN, MIN + 1}) {
            dueSize(substances, 5, 1, 5);
        }
        CHECK.about("Promise 1, substances above 4 becomes 4");
        for (int substances : new int[] {5, 6, 8, 256, MAX}) {
            dueSize(substances, 5, 4, 5);
        }
        CHECK.about("Promise 1, reactions below 2 becomes 2");
        for (int reactions : new int[] {1, 0, -1, -8, MIN, MIN + 1}) {
            dueSize(3, reactions, 3, 2);
        }
        CHECK.about("Promise 1, reactions above 8 becomes 8");
        for (int reactions : new int[] {9, 10, 16, 33, 256, MAX}) {
            dueSize(3, reactions, 3, 8);
        }
        CHECK.about("Promise 1, substances and reactions both too small or too large");
        dueSize(0, 1, 1, 2);
        dueSize(5, 9, 4, 8);
        dueSize(MIN, MAX, 1, 8);
        dueSize(MAX, MIN, 4, 2);
        CHECK.about("Promise 1, 1 .. 4 substances and 2 .. 8 reactions stay");
        for (int m = 1; m <= 4; m++) {
            for (int r = 2; r <= 8; r++) {
                dueSize(m, r, m, r);
            }
        }
    }

    private static void dueSize(int substances, int reactions, int m, int r) {
        FluxModeEnumerator x = new FluxModeEnumerator(substances, reactions);
        String name = "new (" + substances + ", " + reactions + ") ";
        CHECK.due(name + "modes()", x.modes(), r);
        CHECK.due(name + "last cell", x.get(m - 1, r - 1), 0);
        CHECK.due(name + "substance after the last", x.get(m, 0), -100);
        CHECK.due(name + "reaction after the last", x.get(0, r), -100);
        CHECK.due(name + "set after the last substance", x.set(m, 0, 1), -1);
        CHECK.due(name + "set after the last reaction", x.set(0, r, 1), -2);
        CHECK.due(name + "set at the last cell", x.set(m - 1, r - 1, 1), 0);
        CHECK.due(name + "modes() with one that does not balance", x.modes(), r - 1);
    }

    private static void set() {
        CHECK.about("Promise 2, -1 if s is not good");
        for (int m = 1; m <= 4; m++) {
            FluxModeEnumerator x = new FluxModeEnumerator(m, 3);
            for (int s : Cases.wrong(m)) {
                CHECK.due("set(" + s + ", 1, 1) of " + m, x.set(s, 1, 1), -1);
            }
        }
        CHECK.about("Promise 2, -2 if j is not good");
        for (int r = 2; r <= 8; r++) {
            FluxModeEnumerator x = new FluxModeEnumerator(2, r);
            for (int j : Cases.wrong(r)) {
                CHECK.due("set(1, " + j + ", 1) of " + r, x.set(1, j, 1), -2);
            }
        }
        CHECK.about("Promise 2, -3 if value is not in -3 .. 3");
        FluxModeEnumerator x = new FluxModeEnumerator(2, 3);
        for (int value : new int[] {4, -4, 5, -5, 7, 8, 253, 256, -253, 1 << 16, MIN, MIN + 3, MAX, MAX - 3}) {
            CHECK.due("set(0, 0, " + value + ")", x.set(0, 0, value), -3);
        }
        CHECK.about("Promise 2, otherwise 0, from -3 to 3");
        for (int value = -3; value <= 3; value++) {
            CHECK.due("set(1, 2, " + value + ")", x.set(1, 2, value), 0);
            CHECK.due("set(1, 2, " + value + ") again", x.set(1, 2, value), 0);
            CHECK.due("get(1, 2)", x.get(1, 2), value);
        }
        CHECK.about("Promise 2, s is looked at before j, and j before value");
        for (int wrong : Cases.wrong(4)) {
            CHECK.due("set(" + wrong + ", " + wrong + ", 1)", x.set(wrong, wrong, 1), -1);
            CHECK.due("set(" + wrong + ", 0, 4)", x.set(wrong, 0, 4), -1);
            CHECK.due("set(0, " + wrong + ", -4)", x.set(0, wrong, -4), -2);
            CHECK.due("set(" + wrong + ", " + wrong + ", 4)", x.set(wrong, wrong, 4), -1);
        }
    }

    private static void get() {
        CHECK.about("Promise 3, -100 if s is not good");
        for (int m = 1; m <= 4; m++) {
            FluxModeEnumerator x = new FluxModeEnumerator(m, 3);
            for (int s : Cases.wrong(m)) {
                CHECK.due("get(" + s + ", 1) of " + m, x.get(s, 1), -100);
            }
        }
        CHECK.about("Promise 3, -100 if j is not good");
        for (int r = 2; r <= 8; r++) {
            FluxModeEnumerator x = new FluxModeEnumerator(2, r);
            for (int j : Cases.wrong(r)) {
                CHECK.due("get(1, " + j + ") of " + r, x.get(1, j), -100);
            }
        }
        CHECK.about("Promise 3, -100 if neither s nor j is good");
        FluxModeEnumerator x = new FluxModeEnumerator(4, 8);
        for (int wrong : Cases.wrong(8)) {
            CHECK.due("get(" + wrong + ", " + wrong + ")", x.get(wrong, wrong), -100);
        }
    }

    private static void twoWay() {
        CHECK.about("Promise 4, -1 if j is not good");
        for (int r = 2; r <= 8; r++) {
            FluxModeEnumerator x = new FluxModeEnumerator(2, r);
            for (int j : Cases.wrong(r)) {
                CHECK.due("twoWay(" + j + ", 1) of " + r, x.twoWay(j, 1), -1);
                CHECK.due("twoWay(" + j + ", 0) of " + r, x.twoWay(j, 0), -1);
            }
        }
        CHECK.about("Promise 4, any flag that is not 0 makes two-way, and 0 one-way");
        FluxModeEnumerator x = new FluxModeEnumerator(1, 8);
        for (int flag : FLAGS_NOT_0) {
            CHECK.due("twoWay(7, " + flag + ")", x.twoWay(7, flag), 0);
            CHECK.due("carries(7, -1)", x.carries(7, -1), 1);
            CHECK.due("twoWay(7, " + flag + ") again", x.twoWay(7, flag), 1);
            CHECK.due("carries(7, -1)", x.carries(7, -1), 1);
            CHECK.due("twoWay(7, 0)", x.twoWay(7, 0), 1);
            CHECK.due("carries(7, -1)", x.carries(7, -1), 0);
            CHECK.due("twoWay(7, 0) again", x.twoWay(7, 0), 0);
        }
    }

    private static void turn() {
        CHECK.about("Promise 5, -1 if j is not good");
        for (int r = 2; r <= 8; r++) {
            FluxModeEnumerator x = new FluxModeEnumerator(2, r);
            for (int j : Cases.wrong(r)) {
                CHECK.due("turn(" + j + ", 0) of " + r, x.turn(j, 0), -1);
                CHECK.due("turn(" + j + ", 1) of " + r, x.turn(j, 1), -1);
            }
        }
        CHECK.about("Promise 5, any flag that is not 0 turns on, and 0 off");
        FluxModeEnumerator x = new FluxModeEnumerator(1, 8);
        for (int flag : FLAGS_NOT_0) {
            CHECK.due("turn(7, 0)", x.turn(7, 0), 1);
            CHECK.due("carries(7, 1)", x.carries(7, 1), 0);
            CHECK.due("turn(7, 0) again", x.turn(7, 0), 0);
            CHECK.due("carries(7, 1)", x.carries(7, 1), 0);
            CHECK.due("turn(7, " + flag + ")", x.turn(7, flag), 0);
            CHECK.due("carries(7, 1)", x.carries(7, 1), 1);
            CHECK.due("turn(7, " + flag + ") again", x.turn(7, flag), 1);
        }
    }

    private static void modes() {
        CHECK.about("Promise 6, no modes");
        CHECK.due("modes() where nothing balances", Cases.still().modes(), 0);
        FluxModeEnumerator allOff = new FluxModeEnumerator(4, 8);
        for (int j = 0; j < 8; j++) {
            CHECK.due("modes() with " + j + " off", allOff.modes(), 8 - j);
            allOff.turn(j, 0);
        }
        CHECK.due("modes() with all off", allOff.modes(), 0);
        CHECK.due("modes() of independent columns",
            Cases.madeTwoWay(Cases.row(1, 0), Cases.row(0, 1)).modes(), 0);
        CHECK.about("Promise 6, many modes");
        CHECK.due("modes() of a new object, the largest", new FluxModeEnumerator(4, 8).modes(), 8);
        CHECK.due("modes() of four against four", Cases.made(Cases.row(1, 2, 3, 1, -1, -2, -3, -1)).modes(), 16);
        CHECK.due("modes() of any two", Cases.madeTwoWay(Cases.row(1, 2, 3, 1, 2, 3, 1, 2)).modes(), 28);
        CHECK.due("modes() of any five", anyFive().modes(), 56);
        CHECK.due("modes() of any four", Cases.mostModes().modes(), 70);
    }

    /** Any four of these eight columns are independent. */
    private static FluxModeEnumerator anyFive() {
        return Cases.madeTwoWay(
            Cases.row(1, 0, 0, 0, 1, 1, 1, 2), Cases.row(0, 1, 0, 0, 1, 2, 3, 1),
            Cases.row(0, 0, 1, 0, 1, 3, -1, -1), Cases.row(0, 0, 0, 1, 1, -1, 2, 3));
    }

    private static void support() {
        CHECK.about("Promise 7, -1 if i is not good");
        FluxModeEnumerator x = Cases.branch();
        FluxModeEnumerator many = Cases.mostModes();
        FluxModeEnumerator none = Cases.still();
        for (int i : Cases.wrong(3)) {
            CHECK.due("support(" + i + ") of three", x.support(i), -1);
        }
        for (int i : Cases.wrong(70)) {
            CHECK.due("support(" + i + ") of seventy", many.support(i), -1);
        }
        for (int i : Cases.wrong(0)) {
            CHECK.due("support(" + i + ") of none", none.support(i), -1);
        }
        CHECK.due("support of the last mode of three", x.support(2), 14);
        CHECK.due("support of the last mode of seventy", many.support(69), 240);
        CHECK.about("Promise 7, i is not good any more when there are fewer modes");
        x.turn(0, 0);
        CHECK.due("support(0)", x.support(0), 14);
        CHECK.due("support(1)", x.support(1), -1);
        CHECK.due("support(2)", x.support(2), -1);
    }

    private static void flux() {
        CHECK.about("Promise 8, -1000000 if i is not good");
        FluxModeEnumerator x = Cases.branch();
        FluxModeEnumerator many = Cases.mostModes();
        FluxModeEnumerator none = Cases.still();
        for (int i : Cases.wrong(3)) {
            CHECK.due("flux(" + i + ", 0) of three", x.flux(i, 0), -1000000);
        }
        for (int i : Cases.wrong(70)) {
            CHECK.due("flux(" + i + ", 7) of seventy", many.flux(i, 7), -1000000);
        }
        for (int i : Cases.wrong(0)) {
            CHECK.due("flux(" + i + ", 0) of none", none.flux(i, 0), -1000000);
        }
        CHECK.about("Promise 8, i is not good any more when there are fewer modes");
        x.turn(0, 0);
        CHECK.due("flux(0, 3)", x.flux(0, 3), -1);
        CHECK.due("flux(1, 3)", x.flux(1, 3), -1000000);
        CHECK.due("flux(2, 3)", x.flux(2, 3), -1000000);
        CHECK.about("Promise 8, -1000000 if j is not good");
        for (int r = 2; r <= 8; r++) {
            FluxModeEnumerator y = new FluxModeEnumerator(1, r);
            for (int j : Cases.wrong(r)) {
                CHECK.due("flux(0, " + j + ") of " + r, y.flux(0, j), -1000000);
                CHECK.due("flux(1, " + j + ") of " + r, y.flux(1, j), -1000000);
            }
        }
        CHECK.about("Promise 8, -1000000 if neither i nor j is good");
        for (int wrong : Cases.wrong(4)) {
            CHECK.due("flux(" + wrong + ", " + wrong + ")", x.flux(wrong, wrong), -1000000);
        }
    }

    private static void turnable() {
        CHECK.about("Promise 9, -1 if i is not good");
        FluxModeEnumerator x = Cases.branch();
        FluxModeEnumerator many = Cases.mostModes();
        FluxModeEnumerator none = Cases.still();
        for (int i : Cases.wrong(3)) {
            CHECK.due("turnable(" + i + ") of three", x.turnable(i), -1);
        }
        for (int i : Cases.wrong(70)) {
            CHECK.due("turnable(" + i + ") of seventy", many.turnable(i), -1);
        }
        for (int i : Cases.wrong(0)) {
            CHECK.due("turnable(" + i + ") of none", none.turnable(i), -1);
        }
        CHECK.due("turnable of the last mode of three", x.turnable(2), 0);
        CHECK.due("turnable of the last mode of seventy", many.turnable(69), 1);
        CHECK.about("Promise 9, i is not good any more when there are fewer modes");
        x.turn(0, 0);
        CHECK.due("turnable(0)", x.turnable(0), 0);
        CHECK.due("turnable(1)", x.turnable(1), -1);
    }

    private static void find() {
        CHECK.about("Promise 10, -1 if no mode has this support");
        FluxModeEnumerator x = Cases.branch();
        for (int support = -20; support <= 300; support++) {
            int want = support == 7 ? 0 : support == 9 ? 1 : support == 14 ? 2 : -1;
            CHECK.due("find(" + support + ")", x.find(support), want);
        }
        for (int high = 256; high != 0; high <<= 1) {
            CHECK.due("find(7 + " + high + ")", x.find(7 + high), -1);
            CHECK.due("find(-" + high + ")", x.find(-high), -1);
        }
        CHECK.due("find(MAX)", x.find(MAX), -1);
        CHECK.about("Promise 10, -1 for every support if there are no modes");
        FluxModeEnumerator none = Cases.still();
        for (int support = -1; support <= 256; support++) {
            CHECK.due("find(" + support + ") of none", none.find(support), -1);
        }
        CHECK.about("Promise 10, -1 if there is no such mode any more");
        FluxModeEnumerator y = Cases.branch();
        y.turn(0, 0);
        CHECK.due("find(7)", y.find(7), -1);
        CHECK.due("find(9)", y.find(9), -1);
        CHECK.due("find(14)", y.find(14), 0);
    }

    private static void carries() {
        CHECK.about("Promise 11, -1 if j is not good");
        for (int r = 2; r <= 8; r++) {
            FluxModeEnumerator x = new FluxModeEnumerator(1, r);
            for (int j : Cases.wrong(r)) {
                CHECK.due("carries(" + j + ", 1) of " + r, x.carries(j, 1), -1);
                CHECK.due("carries(" + j + ", -1) of " + r, x.carries(j, -1), -1);
            }
        }
        CHECK.about("Promise 11, -2 if direction is 0");
        FluxModeEnumerator x = Cases.branch();
        FluxModeEnumerator none = Cases.still();
        for (int j = 0; j < 4; j++) {
            CHECK.due("carries(" + j + ", 0)", x.carries(j, 0), -2);
        }
        for (int j = 0; j < 3; j++) {
            CHECK.due("carries(" + j + ", 0) without a flow", none.carries(j, 0), -2);
        }
        CHECK.about("Promise 11, j is looked at before direction");
        for (int j : Cases.wrong(4)) {
            CHECK.due("carries(" + j + ", 0)", x.carries(j, 0), -1);
        }
        CHECK.about("Promise 11, any direction above 0 and any below 0");
        for (int direction : new int[] {1, 2, 256, 1 << 16, 1 << 30, MAX}) {
            CHECK.due("carries(0, " + direction + ")", x.carries(0, direction), 1);
            CHECK.due("carries(0, " + -direction + ")", x.carries(0, -direction), 0);
            CHECK.due("carries(3, " + -direction + ")", x.carries(3, -direction), 1);
        }
        CHECK.due("carries(0, MIN)", x.carries(0, MIN), 0);
        CHECK.due("carries(3, MIN)", x.carries(3, MIN), 1);
        CHECK.about("Promise 11, 0 if there is no such flow");
        for (int j = 0; j < 3; j++) {
            CHECK.due("carries(" + j + ", 1) without a flow", none.carries(j, 1), 0);
            CHECK.due("carries(" + j + ", -1) without a flow", none.carries(j, -1), 0);
        }
    }

    private static void coupled() {
        CHECK.about("Promise 12, -1 if j or k is not good");
        for (int r = 2; r <= 8; r++) {
            FluxModeEnumerator x = new FluxModeEnumerator(1, r);
            for (int wrong : Cases.wrong(r)) {
                CHECK.due("coupled(" + wrong + ", 0) of " + r, x.coupled(wrong, 0), -1);
                CHECK.due("coupled(0, " + wrong + ") of " + r, x.coupled(0, wrong), -1);
                CHECK.due("coupled(" + wrong + ", " + wrong + ") of " + r, x.coupled(wrong, wrong), -1);
            }
        }
        CHECK.about("Promise 12, -2 if v(j) is 0 in every flow");
        FluxModeEnumerator off = Cases.branch();
        off.turn(3, 0);
        FluxModeEnumerator none = Cases.still();
        for (int k = 0; k < 4; k++) {
            CHECK.due("coupled(3, " + k + ") with 3 off", off.coupled(3, k), -2);
        }
        for (int cell = 0; cell < 9; cell++) {
            CHECK.due("coupled without a flow", none.coupled(cell / 3, cell % 3), -2);
        }
        CHECK.due("coupled(0, 3) with 3 off", off.coupled(0, 3), 0);
        CHECK.about("Promise 12, j and k are looked at before the flows");
        for (int wrong : Cases.wrong(4)) {
            CHECK.due("coupled(3, " + wrong + ") with 3 off", off.coupled(3, wrong), -1);
            CHECK.due("coupled(0, " + wrong + ") without a flow", none.coupled(0, wrong), -1);
        }
    }

    private static void without() {
        CHECK.about("Promise 13, -1 if j is not good");
        for (int r = 2; r <= 8; r++) {
            FluxModeEnumerator x = new FluxModeEnumerator(1, r);
            for (int j : Cases.wrong(r)) {
                CHECK.due("without(" + j + ") of " + r, x.without(j), -1);
            }
        }
        CHECK.about("Promise 13, all modes if j is off already");
        FluxModeEnumerator x = Cases.mostModes();
        CHECK.due("without(2)", x.without(2), 35);
        x.turn(2, 0);
        CHECK.due("without(2) while off", x.without(2), 35);
        CHECK.due("modes()", x.modes(), 35);
        CHECK.due("without(3)", x.without(3), 15);
        CHECK.about("Promise 13, 0 if none would be left or there is none");
        FluxModeEnumerator pair = Cases.made(Cases.row(1, -1));
        CHECK.due("without(0) of one mode", pair.without(0), 0);
        pair.turn(0, 0);
        CHECK.due("without(0) while off", pair.without(0), 0);
        FluxModeEnumerator none = Cases.still();
        for (int j = 0; j < 3; j++) {
            CHECK.due("without(" + j + ") of none", none.without(j), 0);
        }
    }

    private static void cutSize() {
        CHECK.about("Promise 14, -1 if j is not good");
        for (int r = 2; r <= 8; r++) {
            FluxModeEnumerator x = new FluxModeEnumerator(1, r);
            for (int j : Cases.wrong(r)) {
                CHECK.due("cutSize(" + j + ") of " + r, x.cutSize(j), -1);
            }
        }
        CHECK.about("Promise 14, 0 if there is no flow with v(j) not 0 now");
        FluxModeEnumerator none = Cases.still();
        for (int j = 0; j < 3; j++) {
            CHECK.due("cutSize(" + j + ") without a flow", none.cutSize(j), 0);
        }
        FluxModeEnumerator x = Cases.branch();
        x.turn(1, 0);
        CHECK.due("cutSize(1) while off", x.cutSize(1), 0);
        CHECK.due("cutSize(2) without a way in", x.cutSize(2), 0);
        CHECK.due("cutSize(0) with flow", x.cutSize(0), 1);
        FluxModeEnumerator alone = new FluxModeEnumerator(4, 8);
        alone.turn(7, 0);
        CHECK.due("cutSize(7) alone and off", alone.cutSize(7), 0);
        CHECK.about("Promise 14, -2 if no choice of reactions other than j does it");
        for (int j = 0; j < 7; j++) {
            CHECK.due("cutSize(" + j + ") alone", alone.cutSize(j), -2);
        }
        FluxModeEnumerator y = Cases.made(Cases.row(0, 1, -1));
        y.twoWay(0, 1);
        CHECK.due("cutSize(0) alone and two-way", y.cutSize(0), -2);
        CHECK.due("cutSize(1) beside it", y.cutSize(1), 1);
        CHECK.about("Promise 14, the largest choice is all reactions other than j");
        FluxModeEnumerator seven = Cases.made(Cases.row(1, -1, -2, -3, -1, -2, -3, -1));
        CHECK.due("cutSize(0) against seven", seven.cutSize(0), 7);
        CHECK.due("cutSize(7) against one", seven.cutSize(7), 1);
        CHECK.due("cutSize(1) of two", Cases.made(Cases.row(1, -1)).cutSize(1), 1);
    }

    private static void yieldOfWrongNumbers() {
        for (int r = 2; r <= 8; r++) {
            FluxModeEnumerator top = new FluxModeEnumerator(1, r);
            FluxModeEnumerator bottom = new FluxModeEnumerator(1, r);
            CHECK.about("Promise 15, 0 if a or b is not good");
            for (int wrong : Cases.wrong(r)) {
                CHECK.due("yieldTop(" + wrong + ", 0) of " + r, top.yieldTop(wrong, 0), 0);
                CHECK.due("yieldTop(0, " + wrong + ") of " + r, top.yieldTop(0, wrong), 0);
                CHECK.due("yieldTop(" + wrong + ", " + wrong + ") of " + r, top.yieldTop(wrong, wrong), 0);
            }
            CHECK.about("Promise 16, 0 if a or b is not good");
            for (int wrong : Cases.wrong(r)) {
                CHECK.due("yieldBottom(" + wrong + ", 0) of " + r, bottom.yieldBottom(wrong, 0), 0);
                CHECK.due("yieldBottom(0, " + wrong + ") of " + r, bottom.yieldBottom(0, wrong), 0);
                CHECK.due("yieldBottom(" + wrong + ", " + wrong + ") of " + r, bottom.yieldBottom(wrong, wrong), 0);
            }
        }
    }

    private static void yieldWithoutFlow() {
        FluxModeEnumerator none = Cases.still();
        FluxModeEnumerator off = Cases.branch();
        off.turn(3, 0);
        FluxModeEnumerator backwards = Cases.made(Cases.row(1, 1));
        backwards.twoWay(0, 1);
        CHECK.about("Promise 15, 0 if there is no such flow");
        for (int cell = 0; cell < 9; cell++) {
            CHECK.due("yieldTop without a flow", none.yieldTop(cell / 3, cell % 3), 0);
        }
        for (int b = 0; b < 4; b++) {
            CHECK.due("yieldTop(3, " + b + ") with 3 off", off.yieldTop(3, b), 0);
        }
        CHECK.due("yieldTop(0, 1) where v(0) is only negative", backwards.yieldTop(0, 1), 0);
        CHECK.due("yieldTop(0, 0) where v(0) is only negative", backwards.yieldTop(0, 0), 0);
        CHECK.about("Promise 16, 0 if there is no such flow");
        for (int cell = 0; cell < 9; cell++) {
            CHECK.due("yieldBottom without a flow", none.yieldBottom(cell / 3, cell % 3), 0);
        }
        for (int b = 0; b < 4; b++) {
            CHECK.due("yieldBottom(3, " + b + ") with 3 off", off.yieldBottom(3, b), 0);
        }
        CHECK.due("yieldBottom(0, 1) where v(0) is only negative", backwards.yieldBottom(0, 1), 0);
        CHECK.due("yieldBottom(0, 0) where v(0) is only negative", backwards.yieldBottom(0, 0), 0);
    }

    private static void yieldWholeNumbers() {
        CHECK.about("Promise 16, 1 if the quotient is a whole number");
        CHECK.due("2 / 1", Cases.made(Cases.row(2, -1)).yieldBottom(0, 1), 1);
        CHECK.due("4 / 2", Cases.made(Cases.row(2, -1, 0), Cases.row(3, 0, -2)).yieldBottom(0, 1), 1);
        CHECK.due("-3 / 1", Cases.madeTwoWay(Cases.row(3, 1)).yieldBottom(0, 1), 1);
        CHECK.due("-2 / 2", Cases.madeTwoWay(Cases.row(1, 1, 0), Cases.row(1, 0, -2)).yieldBottom(0, 1), 1);
        CHECK.due("v(a) / v(a)", Cases.made(Cases.row(2, -3)).yieldBottom(1, 1), 1);
        CHECK.about("Promise 16, 1 if the quotient is 0");
        CHECK.due("0 / 1", new FluxModeEnumerator(1, 2).yieldBottom(0, 1), 1);
        CHECK.due("0 / 3", Cases.made(Cases.row(2, -3, 0)).yieldBottom(0, 2), 1);
        FluxModeEnumerator off = Cases.branch();
        off.turn(3, 0);
        CHECK.due("0 / 2 with b off", off.yieldBottom(2, 3), 1);
        CHECK.about("Promise 15, the numerator is 0 if the quotient is 0");
        CHECK.due("0 / 3", Cases.made(Cases.row(2, -3, 0)).yieldTop(0, 2), 0);
        CHECK.about("Promise 15, the numerator is negative if the greatest quotient is");
        CHECK.dueYield(Cases.madeTwoWay(Cases.row(2, 3)), 0, 1, -2, 3);
        CHECK.dueYield(Cases.madeTwoWay(Cases.row(3, 1)), 0, 1, -3, 1);
    }
}
