import java.util.ArrayList;
import java.util.List;

/**
 * Small networks, every question, against the words of the document alone:
 * all flows in a box are listed and looked through. The box holds every mode,
 * since a mode on k reactions has values that are minors of size k - 1.
 */
public final class DefinitionTest {
    private static final Check CHECK = new Check();

    private final Network network;
    private final FluxModeEnumerator x;
    private final String name;
    private final List<int[]> flows = new ArrayList<>();
    private final List<int[]> minimal = new ArrayList<>();
    private final int[][] modeOfSupport;
    private final List<int[]> modes = new ArrayList<>();

    private DefinitionTest(Network network, FluxModeEnumerator x, int box) {
        this.network = network;
        this.x = x;
        name = network.toString();
        modeOfSupport = new int[1 << network.reactions][];
        listFlows(box);
        listMinimal();
        listModes();
    }

    public static void main(String[] args) {
        Draw draw = new Draw(1);
        for (int round = 0; round < 120; round++) {
            compare(Network.drawn(draw, 1, 2 + round % 4), 3);
            compare(Network.drawn(draw, 1 + round % 4, 2 + round % 2), 18);
        }
        changes(draw);
        CHECK.finish();
    }

    private static void compare(Network network, int box) {
        new DefinitionTest(network, network.build(), box).askAll();
    }

    /** One object through changes, and refused calls between them; a part of the questions after each. */
    private static void changes(Draw draw) {
        for (int round = 0; round < 40; round++) {
            Network network = Network.drawn(draw, 1, 4);
            FluxModeEnumerator x = network.build();
            for (int step = 0; step < 6; step++) {
                network.change(draw, x, CHECK);
                CHECK.due("set", x.set(1, 0, 1), -1);
                CHECK.due("set", x.set(0, 4, 1), -2);
                CHECK.due("set", x.set(0, 0, 4), -3);
                CHECK.due("twoWay", x.twoWay(4, 1), -1);
                CHECK.due("turn", x.turn(-1, 0), -1);
                DefinitionTest test = new DefinitionTest(network, x, 3);
                test.askModes();
                test.askWithout();
            }
        }
    }

    private void listFlows(int box) {
        int[] v = new int[network.reactions];
        java.util.Arrays.fill(v, -box);
        while (true) {
            if (network.isFlow(v)) {
                flows.add(v.clone());
            }
            int j = 0;
            while (j < v.length && v[j] == box) {
                v[j++] = -box;
            }
            if (j == v.length) {
                return;
            }
            v[j]++;
        }
    }

    private void listMinimal() {
        boolean[] present = new boolean[1 << network.reactions];
        for (int[] v : flows) {
            present[Network.supportOf(v)] = true;
        }
        for (int[] v : flows) {
            int support = Network.supportOf(v);
            boolean isMinimal = support != 0;
            for (int part = 1; part < support; part++) {
                if ((part & ~support) == 0 && present[part]) {
                    isMinimal = false;
                }
            }
            if (isMinimal) {
                minimal.add(v);
            }
        }
    }

    private void listModes() {
        for (int[] v : minimal) {
            int divisor = 0;
            for (int value : v) {
                divisor = Network.commonDivisor(divisor, value);
            }
            if (divisor == 1 && !(network.isFlow(negative(v)) && first(v) < 0)) {
                int support = Network.supportOf(v);
                CHECK.due(name + "second mode of " + support, modeOfSupport[support] == null ? 0 : 1, 0);
                modeOfSupport[support] = v;
            }
        }
        for (int[] v : modeOfSupport) {
            if (v != null) {
                modes.add(v);
            }
        }
    }

    private static int[] negative(int[] v) {
        int[] answer = new int[v.length];
        for (int j = 0; j < v.length; j++) {
            answer[j] = -v[j];
        }
        return answer;
    }

    private static int first(int[] v) {
        for (int value : v) {
            if (value != 0) {
                return value;
            }
        }
        return 0;
    }

    private boolean good(int j) {
        return j >= 0 && j < network.reactions;
    }

    private void askAll() {
        askModes();
        askFind();
        askCarries();
        askCoupled();
        askWithout();
        askCutSize();
        askYield();
    }

    private void askModes() {
        CHECK.due(name + "modes()", x.modes(), modes.size());
        for (int i = -1; i <= modes.size(); i++) {
            boolean isMode = i >= 0 && i < modes.size();
            int[] v = isMode ? modes.get(i) : null;
            CHECK.due(name + "support(" + i + ")", x.support(i), isMode ? Network.supportOf(v) : -1);
            int turnable = isMode && network.isFlow(negative(v)) ? 1 : 0;
            CHECK.due(name + "turnable(" + i + ")", x.turnable(i), isMode ? turnable : -1);
            for (int j = -1; j <= network.reactions; j++) {
                int want = isMode && good(j) ? v[j] : -1000000;
                CHECK.due(name + "flux(" + i + ", " + j + ")", x.flux(i, j), want);
            }
        }
    }

    private void askFind() {
        for (int support = -2; support <= modeOfSupport.length + 1; support++) {
            boolean known = support >= 0 && support < modeOfSupport.length && modeOfSupport[support] != null;
            int want = known ? modes.indexOf(modeOfSupport[support]) : -1;
            CHECK.due(name + "find(" + support + ")", x.find(support), want);
        }
    }

    private void askCarries() {
        for (int j = -1; j <= network.reactions; j++) {
            for (int direction = -1; direction <= 1; direction++) {
                int want = !good(j) ? -1 : direction == 0 ? -2 : 0;
                for (int[] v : flows) {
                    if (want == 0 && v[j] * direction > 0) {
                        want = 1;
                    }
                }
                CHECK.due(name + "carries(" + j + ", " + direction + ")", x.carries(j, direction), want);
            }
        }
    }

    private void askCoupled() {
        for (int j = -1; j <= network.reactions; j++) {
            for (int k = -1; k <= network.reactions; k++) {
                int want = -1;
                if (good(j) && good(k)) {
                    want = -2;
                    for (int[] v : flows) {
                        if (v[j] != 0) {
                            want = want == 0 || v[k] == 0 ? 0 : 1;
                        }
                    }
                }
                CHECK.due(name + "coupled(" + j + ", " + k + ")", x.coupled(j, k), want);
            }
        }
    }

    private void askWithout() {
        for (int j = -1; j <= network.reactions; j++) {
            int want = -1;
            if (good(j)) {
                boolean before = network.off[j];
                network.off[j] = true;
                want = 0;
                // Turning off takes flows away, so only supports that still have a flow must be looked at.
                boolean[] present = new boolean[1 << network.reactions];
                for (int[] v : flows) {
                    if (network.isFlow(v)) {
                        present[Network.supportOf(v)] = true;
                    }
                }
                for (int support = 1; support < present.length; support++) {
                    want += present[support] && !hasPart(present, support) ? 1 : 0;
                }
                network.off[j] = before;
            }
            CHECK.due(name + "without(" + j + ")", x.without(j), want);
        }
    }

    private static boolean hasPart(boolean[] present, int support) {
        for (int part = 1; part < support; part++) {
            if ((part & ~support) == 0 && present[part]) {
                return true;
            }
        }
        return false;
    }

    private void askCutSize() {
        for (int j = -1; j <= network.reactions; j++) {
            int want = -1;
            if (good(j)) {
                want = -2;
                for (int cut = 0; cut < 1 << network.reactions; cut++) {
                    if ((cut >> j & 1) == 0 && stops(cut, j) && (want < 0 || Integer.bitCount(cut) < want)) {
                        want = Integer.bitCount(cut);
                    }
                }
            }
            CHECK.due(name + "cutSize(" + j + ")", x.cutSize(j), want);
        }
    }

    private boolean stops(int cut, int j) {
        for (int[] v : flows) {
            if (v[j] != 0 && (Network.supportOf(v) & cut) == 0) {
                return false;
            }
        }
        return true;
    }

    private void askYield() {
        for (int a = -1; a <= network.reactions; a++) {
            for (int b = -1; b <= network.reactions; b++) {
                int top = 0;
                int bottom = 0;
                for (int[] v : minimal) {
                    if (good(a) && good(b) && v[a] > 0 && (bottom == 0 || v[b] * bottom > top * v[a])) {
                        int divisor = Network.commonDivisor(v[b], v[a]);
                        top = v[b] / divisor;
                        bottom = v[a] / divisor;
                    }
                }
                CHECK.due(name + "yieldTop(" + a + ", " + b + ")", x.yieldTop(a, b), top);
                CHECK.due(name + "yieldBottom(" + a + ", " + b + ")", x.yieldBottom(a, b), bottom);
            }
        }
    }
}
