/** A network for the tests: what it holds can be read here and put into a new object. */
final class Network {
    final int substances;
    final int reactions;
    final int[][] table;
    final boolean[] twoWay;
    final boolean[] off;

    Network(int substances, int reactions) {
        this.substances = substances;
        this.reactions = reactions;
        table = new int[substances][reactions];
        twoWay = new boolean[reactions];
        off = new boolean[reactions];
    }

    /** A network from numbers that are the same in every run. */
    static Network drawn(Draw draw, int substances, int reactions) {
        Network network = new Network(substances, reactions);
        int zeros = draw.below(8);
        int ways = draw.below(4);
        int offs = draw.below(3);
        for (int j = 0; j < reactions; j++) {
            for (int s = 0; s < substances; s++) {
                network.table[s][j] = draw.below(10) < zeros ? 0 : draw.below(7) - 3;
            }
            network.twoWay[j] = draw.below(3) < ways;
            network.off[j] = offs == 2 && draw.below(5) == 0;
        }
        return network;
    }

    FluxModeEnumerator build() {
        FluxModeEnumerator made = new FluxModeEnumerator(substances, reactions);
        for (int j = 0; j < reactions; j++) {
            for (int s = 0; s < substances; s++) {
                if (table[s][j] != 0) {
                    made.set(s, j, table[s][j]);
                }
            }
            if (twoWay[j]) {
                made.twoWay(j, 1);
            }
            if (off[j]) {
                made.turn(j, 0);
            }
        }
        return made;
    }

    /** Makes one drawn change here and in the object, and looks at what the object answers to it. */
    void change(Draw draw, FluxModeEnumerator x, Check check) {
        int j = draw.below(reactions);
        int kind = draw.below(3);
        int flag = draw.below(3) - 1;
        if (kind == 0) {
            int s = draw.below(substances);
            int value = draw.below(7) - 3;
            check.due(this + "set(" + s + ", " + j + ", " + value + ")", x.set(s, j, value), 0);
            table[s][j] = value;
        } else if (kind == 1) {
            check.due(this + "twoWay(" + j + ", " + flag + ")", x.twoWay(j, flag), twoWay[j] ? 1 : 0);
            twoWay[j] = flag != 0;
        } else {
            check.due(this + "turn(" + j + ", " + flag + ")", x.turn(j, flag), off[j] ? 0 : 1);
            off[j] = flag == 0;
        }
    }

    boolean isFlow(int[] v) {
        for (int j = 0; j < reactions; j++) {
            if ((off[j] && v[j] != 0) || (!twoWay[j] && v[j] < 0)) {
                return false;
            }
        }
        for (int s = 0; s < substances; s++) {
            int sum = 0;
            for (int j = 0; j < reactions; j++) {
                sum += table[s][j] * v[j];
            }
            if (sum != 0) {
                return false;
            }
        }
        return true;
    }

    static int supportOf(int[] v) {
        int support = 0;
        for (int j = 0; j < v.length; j++) {
            if (v[j] != 0) {
                support |= 1 << j;
            }
        }
        return support;
    }

    static int commonDivisor(int a, int b) {
        int x = Math.abs(a);
        int y = Math.abs(b);
        while (y != 0) {
            int rest = x % y;
            x = y;
            y = rest;
        }
        return x;
    }

    @Override
    public String toString() {
        return "[" + java.util.Arrays.deepToString(table) + " two-way " + java.util.Arrays.toString(twoWay)
            + " off " + java.util.Arrays.toString(off) + "] ";
    }
}
