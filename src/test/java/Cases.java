import java.util.Arrays;
import java.util.stream.IntStream;

/** Networks and wrong numbers that several tests use. */
final class Cases {
    private static final int[] ODD_NUMBERS = {
        -1, -2, -7, -8, -9, -16, -32, -256, 0, 1, 2, 3, 4, 5, 6, 7, 8, 9, 16, 31, 32, 33, 64, 255, 256, 257, 2048,
        1 << 28, 1 << 29, (1 << 29) + 1, 1 << 30, -(1 << 29), Integer.MIN_VALUE, Integer.MIN_VALUE + 1,
        Integer.MAX_VALUE};

    private Cases() {
    }

    /** An object with one row for each substance. */
    static FluxModeEnumerator made(int[]... rows) {
        FluxModeEnumerator x = new FluxModeEnumerator(rows.length, rows[0].length);
        for (int s = 0; s < rows.length; s++) {
            for (int j = 0; j < rows[s].length; j++) {
                x.set(s, j, rows[s][j]);
            }
        }
        return x;
    }

    static FluxModeEnumerator madeTwoWay(int[]... rows) {
        FluxModeEnumerator x = made(rows);
        for (int j = 0; j < rows[0].length; j++) {
            x.twoWay(j, 1);
        }
        return x;
    }

    static int[] row(int... values) {
        return values;
    }

    /** 0 brings A, 1 makes two B of one A, 2 takes B away, 3 takes A away or brings it: modes 7, 9 and 14. */
    static FluxModeEnumerator branch() {
        FluxModeEnumerator x = made(row(1, -1, 0, -1), row(0, 2, -1, 0));
        x.twoWay(3, 1);
        return x;
    }

    /** Nothing balances: there is no mode and no flow but the one that is all 0. */
    static FluxModeEnumerator still() {
        return made(row(1, 1, 2));
    }

    /** Any three of these columns are independent, so that any four are a support: no network has more modes. */
    static FluxModeEnumerator mostModes() {
        return madeTwoWay(
            row(1, 0, 0, -2, 1, 3, -3, 1), row(0, 1, 0, -1, -2, -1, 2, 1), row(0, 0, 1, -1, -3, 2, -1, 3));
    }

    /** Numbers that are not in 0 .. bound-1: next to it, and such as would wrap around in a shift or a product. */
    static int[] wrong(int bound) {
        return IntStream.concat(IntStream.of(bound, bound + 1, -bound), Arrays.stream(ODD_NUMBERS))
            .filter(number -> number < 0 || number >= bound)
            .distinct()
            .toArray();
    }
}
