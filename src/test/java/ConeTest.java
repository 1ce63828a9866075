import java.util.ArrayList;
import java.util.List;
import java.util.TreeMap;

/**
 * Large networks against another way to the modes: two-way reactions are split
 * into two one-way halves, and the rays of the cone of flows are combined
 * substance by substance. What is left if reactions are off is found by
 * making the rays anew without them.
 */
public final class ConeTest {
    private static final Check CHECK = new Check();
    private static final int MODES_FOR_ONE_OBJECT = 30;
    private static final int CHANGES_OF_ONE_OBJECT = 150;

    public static void main(String[] args) {
        Draw draw = new Draw(7);
        for (int round = 0; round < 24; round++) {
            Network network = Network.drawn(draw, 1 + round % 4, 6 + round % 3);
            compareModes(network);
            compareCuts(network);
            compareDirections(network);
        }
        for (int round = 0; round < 300; round++) {
            compareModes(Network.drawn(draw, 1 + draw.below(4), 5 + draw.below(4)));
        }
        for (int round = 0; round < 40; round++) {
            compareAfterChanges(draw, Network.drawn(draw, 1 + round % 4, 8));
        }
        compareMostModes();
        CHECK.finish();
    }

    /** Any three of these eight columns are independent, so that any four of them are a support: no network has more. */
    private static void compareMostModes() {
        Network network = new Network(3, 8);
        int[][] columns = {
            {1, 0, 0}, {0, 1, 0}, {0, 0, 1}, {-2, -1, -1}, {1, -2, -3}, {3, -1, 2}, {-3, 2, -1}, {1, 1, 3}};
        for (int j = 0; j < 8; j++) {
            network.twoWay[j] = true;
            for (int s = 0; s < 3; s++) {
                network.table[s][j] = columns[j][s];
            }
        }
        CHECK.due("modes() of the network with the most modes", network.build().modes(), 70);
        compareModes(network);
    }

    /** Only what the network is now counts, not how it came to be so. */
    private static void compareAfterChanges(Draw draw, Network network) {
        FluxModeEnumerator x = network.build();
        for (int change = 0; change < CHANGES_OF_ONE_OBJECT; change++) {
            network.change(draw, x, CHECK);
        }
        List<int[]> modes = modesOf(network, 0);
        CHECK.due(network + "modes() after changes", x.modes(), modes.size());
        for (int i = 0; i < modes.size() && i < MODES_FOR_ONE_OBJECT; i++) {
            CHECK.dueMode(x, i, modes.get(i));
        }
    }

    private static void compareModes(Network network) {
        List<int[]> modes = modesOf(network, 0);
        FluxModeEnumerator x = network.build();
        CHECK.due(network + "modes()", x.modes(), modes.size());
        for (int i = 0; i < modes.size(); i++) {
            if (i % MODES_FOR_ONE_OBJECT == 0) {
                x = network.build();
            }
            int[] v = modes.get(i);
            int support = Network.supportOf(v);
            int turnable = 1;
            for (int j = 0; j < v.length; j++) {
                CHECK.due(network + "flux(" + i + ", " + j + ")", x.flux(i, j), v[j]);
                if (v[j] != 0 && !network.twoWay[j]) {
                    turnable = 0;
                }
            }
            CHECK.due(network + "support(" + i + ")", x.support(i), support);
            CHECK.due(network + "turnable(" + i + ")", x.turnable(i), turnable);
            CHECK.due(network + "find(" + support + ")", x.find(support), i);
        }
        CHECK.due(network + "support(" + modes.size() + ")", x.support(modes.size()), -1);
    }

    private static void compareCuts(Network network) {
        int r = network.reactions;
        int[] carried = new int[1 << r];
        int[] count = new int[1 << r];
        for (int cut = 0; cut < 1 << r; cut++) {
            for (int[] v : modesOf(network, cut)) {
                carried[cut] |= Network.supportOf(v);
                count[cut]++;
            }
        }
        FluxModeEnumerator x = network.build();
        for (int j = 0; j < r; j++) {
            CHECK.due(network + "without(" + j + ")", x.without(j), count[1 << j]);
            int least = -2;
            for (int cut = 0; cut < 1 << r; cut++) {
                boolean stops = (cut >> j & 1) == 0 && (carried[cut] >> j & 1) == 0;
                if (stops && (least < 0 || Integer.bitCount(cut) < least)) {
                    least = Integer.bitCount(cut);
                }
            }
            CHECK.due(network + "cutSize(" + j + ")", x.cutSize(j), least);
            for (int k = 0; k < r; k++) {
                int want = (carried[0] >> j & 1) == 0 ? -2 : 1 - (carried[1 << k] >> j & 1);
                CHECK.due(network + "coupled(" + j + ", " + k + ")", x.coupled(j, k), want);
            }
        }
    }

    /** The rays of the cone hold both v and -v where both are flows, so that signs need no thought here. */
    private static void compareDirections(Network network) {
        List<int[]> minimal = minimalOf(network, 0);
        int r = network.reactions;
        FluxModeEnumerator x = network.build();
        for (int a = 0; a < r; a++) {
            int forward = 0;
            int back = 0;
            for (int[] v : minimal) {
                forward = v[a] > 0 ? 1 : forward;
                back = v[a] < 0 ? 1 : back;
            }
            CHECK.due(network + "carries(" + a + ", 1)", x.carries(a, 1), forward);
            CHECK.due(network + "carries(" + a + ", -1)", x.carries(a, -1), back);
            for (int b = 0; b < r; b++) {
                compareYield(network, x, minimal, a, b);
            }
        }
    }

    private static void compareYield(Network network, FluxModeEnumerator x, List<int[]> minimal, int a, int b) {
        int[] best = null;
        for (int[] v : minimal) {
            if (v[a] > 0 && (best == null || (long) v[b] * best[a] > (long) best[b] * v[a])) {
                best = v;
            }
        }
        int divisor = best == null ? 1 : Network.commonDivisor(best[a], best[b]);
        int top = best == null ? 0 : best[b] / divisor;
        int bottom = best == null ? 0 : best[a] / divisor;
        CHECK.due(network + "yieldTop(" + a + ", " + b + ")", x.yieldTop(a, b), top);
        CHECK.due(network + "yieldBottom(" + a + ", " + b + ")", x.yieldBottom(a, b), bottom);
    }

    private static List<int[]> modesOf(Network network, int cut) {
        TreeMap<Integer, int[]> modes = new TreeMap<>();
        for (int[] v : minimalOf(network, cut)) {
            int support = Network.supportOf(v);
            if (!modes.containsKey(support) || v[Integer.numberOfTrailingZeros(support)] > 0) {
                modes.put(support, v);
            }
        }
        return new ArrayList<>(modes.values());
    }

    private static List<int[]> minimalOf(Network network, int cut) {
        List<int[]> minimal = new ArrayList<>();
        for (long[] ray : raysOf(network, cut)) {
            int[] v = new int[network.reactions];
            boolean isThereAndBack = false;
            for (int j = 0; j < v.length; j++) {
                v[j] = (int) (ray[2 * j] - ray[2 * j + 1]);
                isThereAndBack |= ray[2 * j] != 0 && ray[2 * j + 1] != 0;
            }
            if (!isThereAndBack) {
                minimal.add(v);
            }
        }
        return minimal;
    }

    private static List<long[]> raysOf(Network network, int cut) {
        List<long[]> rays = new ArrayList<>();
        for (int half = 0; half < 2 * network.reactions; half++) {
            int j = half / 2;
            boolean isOff = network.off[j] || (cut >> j & 1) == 1;
            if (!isOff && (half % 2 == 0 || network.twoWay[j])) {
                long[] ray = new long[2 * network.reactions];
                ray[half] = 1;
                rays.add(ray);
            }
        }
        for (int s = 0; s < network.substances; s++) {
            rays = balanced(rays, network.table[s]);
        }
        return rays;
    }

    private static List<long[]> balanced(List<long[]> rays, int[] row) {
        List<long[]> answer = new ArrayList<>();
        for (long[] ray : rays) {
            if (made(ray, row) == 0) {
                answer.add(ray);
            }
        }
        for (long[] plus : rays) {
            for (long[] minus : rays) {
                if (made(plus, row) > 0 && made(minus, row) < 0 && areNeighbours(rays, plus, minus)) {
                    answer.add(combined(plus, -made(minus, row), minus, made(plus, row)));
                }
            }
        }
        return answer;
    }

    private static long made(long[] ray, int[] row) {
        long sum = 0;
        for (int j = 0; j < row.length; j++) {
            sum += row[j] * (ray[2 * j] - ray[2 * j + 1]);
        }
        return sum;
    }

    private static boolean areNeighbours(List<long[]> rays, long[] plus, long[] minus) {
        for (long[] ray : rays) {
            boolean isInside = ray != plus && ray != minus;
            for (int half = 0; half < ray.length && isInside; half++) {
                isInside = ray[half] == 0 || plus[half] != 0 || minus[half] != 0;
            }
            if (isInside) {
                return false;
            }
        }
        return true;
    }

    private static long[] combined(long[] plus, long plusTimes, long[] minus, long minusTimes) {
        long[] ray = new long[plus.length];
        int divisor = 0;
        for (int half = 0; half < ray.length; half++) {
            ray[half] = plus[half] * plusTimes + minus[half] * minusTimes;
            divisor = Network.commonDivisor(divisor, Math.toIntExact(ray[half]));
        }
        for (int half = 0; half < ray.length; half++) {
            ray[half] /= divisor;
        }
        return ray;
    }
}
