/** Promise 3. */
public final class AppendGradientTest {
    private static final Checks CHECKS = new Checks();

    /** The first row and the first column of the frame that the call makes. */
    private static void edges(int base, int gx, int gy, int[] row, int[] column) {
        GopVideoCodec codec = new GopVideoCodec(1, 0, 0);
        String call = "appendGradient(" + base + ", " + gx + ", " + gy + ")";
        CHECKS.due(call, codec.appendGradient(base, gx, gy), 0);
        for (int k = 0; k < 8; k++) {
            CHECKS.due(call + " pixel(0, 0, " + k + ", 0)", codec.pixel(0, 0, k, 0), row[k]);
            CHECKS.due(call + " pixel(0, 0, 0, " + k + ")", codec.pixel(0, 0, 0, k), column[k]);
        }
    }

    public static void main(String[] args) {
        edges(10, 2, 3, new int[] {10, 12, 14, 16, 18, 20, 22, 24}, new int[] {10, 13, 16, 19, 22, 25, 28, 31});
        edges(250, 2, -50, new int[] {250, 252, 254, 255, 255, 255, 255, 255},
                new int[] {250, 200, 150, 100, 50, 0, 0, 0});
        edges(-5, 3, 60, new int[] {0, 0, 1, 4, 7, 10, 13, 16}, new int[] {0, 55, 115, 175, 235, 255, 255, 255});
        // The sum wraps before it is clamped.
        edges(Integer.MAX_VALUE, 1, -1, new int[] {255, 0, 0, 0, 0, 0, 0, 0},
                new int[] {255, 255, 255, 255, 255, 255, 255, 255});
        edges(Integer.MIN_VALUE, -1, Integer.MIN_VALUE, new int[] {0, 255, 255, 255, 255, 255, 255, 255},
                new int[] {0, 0, 0, 0, 0, 0, 0, 0});
        edges(7, 1 << 30, 1 << 29, new int[] {7, 255, 0, 0, 7, 255, 0, 0}, new int[] {7, 255, 255, 255, 0, 0, 0, 0});
        edges(9, Integer.MIN_VALUE, Integer.MAX_VALUE, new int[] {9, 0, 9, 0, 9, 0, 9, 0},
                new int[] {9, 0, 7, 0, 5, 0, 3, 0});

        GopVideoCodec codec = new GopVideoCodec(1, 0, 0);
        int[] rows = new int[64];
        for (int y = 0; y < 8; y++) {
            for (int x = 0; x < 8; x++) {
                rows[8 * y + x] = 3 + x + 20 * y;
            }
        }
        CHECKS.due("appendGradient(3, 1, 20)", codec.appendGradient(3, 1, 20), 0);
        CHECKS.pixels("appendGradient(3, 1, 20)", codec, GopVideoCodec.PLANE_INPUT, 0, rows);

        AppendRefusals.check(CHECKS, "appendGradient(1, 2, 3)", c -> c.appendGradient(1, 2, 3));
        CHECKS.finish();
    }
}
