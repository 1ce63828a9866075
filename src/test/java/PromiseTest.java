/** The promises one by one on ordinary inputs; their boundary cases stand in BoundaryTest. */
public final class PromiseTest {
    private static final Check CHECK = new Check();

    public static void main(String[] args) {
        newObject();
        setAndGet();
        twoWay();
        turn();
        modes();
        support();
        flux();
        turnable();
        find();
        carries();
        coupled();
        without();
        cutSize();
        yields();
        yieldSigns();
        objectsApart();
        CHECK.finish();
    }

    private static void newObject() {
        CHECK.about("Promise 1");
        FluxModeEnumerator x = new FluxModeEnumerator(3, 5);
        CHECK.due("modes()", x.modes(), 5);
        for (int i = 0; i < 5; i++) {
            CHECK.due("support(" + i + ")", x.support(i), 1 << i);
            CHECK.due("flux(" + i + ", " + i + ")", x.flux(i, i), 1);
        }
    }

    private static void setAndGet() {
        CHECK.about("Promises 2 and 3");
        FluxModeEnumerator x = new FluxModeEnumerator(4, 8);
        for (int s = 0; s < 4; s++) {
            for (int j = 0; j < 8; j++) {
                CHECK.due("set(" + s + ", " + j + ")", x.set(s, j, (3 * s + j) % 7 - 3), 0);
            }
        }
        for (int s = 0; s < 4; s++) {
            for (int j = 0; j < 8; j++) {
                CHECK.due("get(" + s + ", " + j + ")", x.get(s, j), (3 * s + j) % 7 - 3);
            }
        }
        FluxModeEnumerator y = new FluxModeEnumerator(1, 2);
        y.set(0, 0, 1);
        CHECK.due("modes() after set", y.modes(), 1);
        y.set(0, 1, -2);
        CHECK.dueMode(y, 0, 2, 1);
        y.set(0, 1, -3);
        CHECK.dueMode(y, 0, 3, 1);
        y.set(0, 0, 0);
        CHECK.dueMode(y, 0, 1, 0);
        CHECK.due("modes() after set to 0", y.modes(), 1);
    }

    private static void twoWay() {
        CHECK.about("Promise 4");
        FluxModeEnumerator x = Cases.made(Cases.row(1, 1));
        CHECK.due("modes()", x.modes(), 0);
        CHECK.due("twoWay(1, 1)", x.twoWay(1, 1), 0);
        CHECK.due("modes()", x.modes(), 1);
        CHECK.due("twoWay(1, 0)", x.twoWay(1, 0), 1);
        CHECK.due("modes()", x.modes(), 0);
        CHECK.due("twoWay(0, 1)", x.twoWay(0, 1), 0);
        CHECK.due("modes()", x.modes(), 1);
        CHECK.due("twoWay(1, 0)", x.twoWay(1, 0), 0);
        CHECK.due("turn(0, 0)", x.turn(0, 0), 1);
        CHECK.due("twoWay(0, 1) while off", x.twoWay(0, 1), 1);
    }

    private static void turn() {
        CHECK.about("Promise 5");
        FluxModeEnumerator x = Cases.branch();
        CHECK.due("turn(3, 0)", x.turn(3, 0), 1);
        CHECK.due("modes()", x.modes(), 1);
        CHECK.due("turn(3, 1)", x.turn(3, 1), 0);
        CHECK.due("modes()", x.modes(), 3);
        CHECK.due("twoWay(3, 1) after off and on", x.twoWay(3, 1), 1);
        CHECK.due("turn(0, 0)", x.turn(0, 0), 1);
        CHECK.due("set of a reaction that is off", x.set(0, 0, 0), 0);
        CHECK.due("modes()", x.modes(), 1);
        CHECK.due("turn(0, 1)", x.turn(0, 1), 0);
        CHECK.due("find(1)", x.find(1), 0);
    }

    private static void modes() {
        CHECK.about("Promise 6");
        CHECK.due("modes() of the branch", Cases.branch().modes(), 3);
        CHECK.due("modes() of three against three", Cases.made(Cases.row(1, 2, 3, -1, -2, -3)).modes(), 9);
        FluxModeEnumerator x = Cases.made(Cases.row(1, -1, 1, -1), Cases.row(1, -1, 1, -1));
        CHECK.due("modes() with a row twice", x.modes(), 4);
    }

    private static void support() {
        CHECK.about("Promise 7");
        FluxModeEnumerator x = Cases.branch();
        CHECK.due("support(0)", x.support(0), 7);
        CHECK.due("support(1)", x.support(1), 9);
        CHECK.due("support(2)", x.support(2), 14);
    }

    private static void flux() {
        CHECK.about("Promise 8");
        FluxModeEnumerator x = Cases.branch();
        CHECK.dueMode(x, 0, 1, 1, 2, 0);
        CHECK.dueMode(x, 1, 1, 0, 0, 1);
        CHECK.dueMode(x, 2, 0, 1, 2, -1);
        CHECK.dueMode(Cases.made(Cases.row(1, 3, -3)), 1, 0, 1, 1);
        FluxModeEnumerator y = Cases.made(Cases.row(1, 1));
        y.twoWay(0, 1);
        CHECK.dueMode(y, 0, -1, 1);
    }

    private static void turnable() {
        CHECK.about("Promise 9");
        FluxModeEnumerator x = Cases.made(Cases.row(1, -1, 0), Cases.row(0, 0, 0));
        CHECK.due("turnable(0)", x.turnable(0), 0);
        x.twoWay(0, 1);
        CHECK.due("turnable(0)", x.turnable(0), 0);
        x.twoWay(1, 1);
        CHECK.due("turnable(0)", x.turnable(0), 1);
        CHECK.due("turnable(1)", x.turnable(1), 0);
        x.twoWay(2, 1);
        CHECK.due("turnable(1)", x.turnable(1), 1);
    }

    private static void find() {
        CHECK.about("Promise 10");
        FluxModeEnumerator x = Cases.branch();
        CHECK.due("find(7)", x.find(7), 0);
        CHECK.due("find(9)", x.find(9), 1);
        CHECK.due("find(14)", x.find(14), 2);
        x.turn(1, 0);
        CHECK.due("find(9)", x.find(9), 0);
    }

    private static void carries() {
        CHECK.about("Promise 11");
        FluxModeEnumerator x = Cases.branch();
        for (int j = 0; j < 4; j++) {
            CHECK.due("carries(" + j + ", 1)", x.carries(j, 1), 1);
            CHECK.due("carries(" + j + ", -1)", x.carries(j, -1), j == 3 ? 1 : 0);
        }
        x.turn(0, 0);
        CHECK.due("carries(3, 1)", x.carries(3, 1), 0);
        CHECK.due("carries(3, -1)", x.carries(3, -1), 1);
        CHECK.due("carries(0, 1) while off", x.carries(0, 1), 0);
        x.turn(0, 1);
        x.turn(2, 0);
        CHECK.due("carries(1, 1) without a way out", x.carries(1, 1), 0);
        FluxModeEnumerator y = Cases.madeTwoWay(Cases.row(1, 1));
        for (int j = 0; j < 2; j++) {
            CHECK.due("carries(" + j + ", 1)", y.carries(j, 1), 1);
            CHECK.due("carries(" + j + ", -1)", y.carries(j, -1), 1);
        }
    }

    private static void coupled() {
        CHECK.about("Promise 12");
        FluxModeEnumerator x = Cases.branch();
        CHECK.due("coupled(1, 2)", x.coupled(1, 2), 1);
        CHECK.due("coupled(2, 1)", x.coupled(2, 1), 1);
        CHECK.due("coupled(0, 1)", x.coupled(0, 1), 0);
        CHECK.due("coupled(1, 0)", x.coupled(1, 0), 0);
        CHECK.due("coupled(0, 0)", x.coupled(0, 0), 1);
        x.turn(3, 0);
        CHECK.due("coupled(0, 1) with 3 off", x.coupled(0, 1), 1);
        FluxModeEnumerator y = Cases.made(Cases.row(1, -1, -1));
        CHECK.due("one direction: coupled(1, 0)", y.coupled(1, 0), 1);
        CHECK.due("one direction: coupled(0, 1)", y.coupled(0, 1), 0);
    }

    private static void without() {
        CHECK.about("Promise 13");
        FluxModeEnumerator x = Cases.branch();
        for (int j = 0; j < 4; j++) {
            CHECK.due("without(" + j + ")", x.without(j), 1);
        }
        FluxModeEnumerator y = Cases.made(Cases.row(1, 2, 3, -1, -2));
        CHECK.due("without(0)", y.without(0), 4);
        CHECK.due("without(4)", y.without(4), 3);
    }

    private static void cutSize() {
        CHECK.about("Promise 14");
        FluxModeEnumerator x = Cases.branch();
        CHECK.due("cutSize(0)", x.cutSize(0), 2);
        CHECK.due("cutSize(1)", x.cutSize(1), 1);
        CHECK.due("cutSize(2)", x.cutSize(2), 1);
        CHECK.due("cutSize(3)", x.cutSize(3), 2);
        FluxModeEnumerator y = Cases.made(Cases.row(1, -1, -2, -3, -1, -2, -3, 0));
        CHECK.due("cutSize(0) against six", y.cutSize(0), 6);
        CHECK.due("cutSize(6)", y.cutSize(6), 1);
    }

    private static void yields() {
        CHECK.about("Promises 15 and 16");
        FluxModeEnumerator x = Cases.made(Cases.row(1, -2, -3));
        CHECK.dueYield(x, 0, 1, 1, 2);
        CHECK.dueYield(x, 0, 2, 1, 3);
        CHECK.dueYield(x, 1, 0, 2, 1);
        CHECK.dueYield(x, 2, 0, 3, 1);
        CHECK.dueYield(x, 1, 2, 0, 1);
        CHECK.dueYield(x, 1, 1, 1, 1);
        FluxModeEnumerator y = Cases.made(Cases.row(2, -1, 0), Cases.row(3, 0, -2));
        CHECK.dueYield(y, 0, 1, 2, 1);
        CHECK.dueYield(y, 1, 0, 1, 2);
        CHECK.dueYield(y, 0, 2, 3, 2);
        CHECK.dueYield(y, 1, 2, 3, 4);
        CHECK.dueYield(Cases.made(Cases.row(3, -2, -1), Cases.row(0, 1, -1)), 0, 1, 1, 1);
    }

    private static void yieldSigns() {
        CHECK.about("Promises 15 and 16, a minimal flow with v(a) > 0 may be the negative of a mode");
        FluxModeEnumerator x = Cases.made(Cases.row(2, 3));
        x.twoWay(0, 1);
        CHECK.dueYield(x, 1, 0, -3, 2);
        x.twoWay(1, 1);
        CHECK.dueYield(x, 0, 1, -2, 3);
        CHECK.dueYield(x, 1, 0, -3, 2);
        FluxModeEnumerator y = Cases.madeTwoWay(Cases.row(1, 0, 2, 3), Cases.row(0, 1, -2, -1));
        CHECK.dueMode(y, 0, 2, -2, -1, 0);
        CHECK.dueMode(y, 1, 3, -1, 0, -1);
        CHECK.dueMode(y, 2, 4, 0, 1, -2);
        CHECK.dueMode(y, 3, 0, 4, 3, -2);
        CHECK.dueYield(y, 2, 1, 2, 1);
        CHECK.dueYield(y, 2, 0, 4, 1);
        CHECK.dueYield(y, 1, 3, 1, 1);
        CHECK.dueYield(y, 3, 2, 0, 1);
        y.turn(2, 0);
        CHECK.dueYield(y, 0, 1, -1, 3);
        CHECK.dueYield(y, 1, 0, -3, 1);
    }

    private static void objectsApart() {
        CHECK.about("What one object is told, another does not know");
        FluxModeEnumerator x = Cases.branch();
        FluxModeEnumerator y = new FluxModeEnumerator(2, 4);
        y.turn(1, 0);
        CHECK.due("modes() of the one", x.modes(), 3);
        CHECK.due("modes() of the other", y.modes(), 3);
        CHECK.dueMode(x, 0, 1, 1, 2, 0);
        CHECK.dueMode(y, 1, 0, 0, 1, 0);
        CHECK.due("get(0, 0) of the other", y.get(0, 0), 0);
    }
}
