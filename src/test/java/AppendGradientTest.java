/** Promise 3. */
public final class AppendGradientTest {
    private static final Checks CHECKS = new Checks();

    /** The first row and the first column of the frame that the call makes. */
    private static void edges(int base, int gx, int gy, int[] row, int[] column) {
        GopVideoCodec codec = new GopVideoCodec(1, 0, 0);
        String call = "appendGradient(" + base + ", " + gx + ", " + gy + ")";
        CHECKS.due(call, codec.appendGradient(base, gx, gy), 0);
        for (int k = 0; k < 8; k++) {
            CHECKS.due(call + " pixel(0, 0, " + k + ", 0)", codec.pixel(0, 0, k, 0), row[k]);
            CHECKS.due(call + " pixel(0, 0, 0, " + k + ")", codec.pixel(0, 0, 0, k), column[k]);
        }
    }

    private static void flat(int base, int want) {
        GopVideoCodec codec = new GopVideoCodec(1, 0, 0);
        CHECKS.due("appendGradient(" + base + ", 0, 0)", codec.appendGradient(base, 0, 0), 0);
        CHECKS.pixels("appendGradient(" + base + ", 0, 0)", codec, GopVideoCodec.PLANE_INPUT, 0, Checks.flat(want));
    }

    private static void everyPixel() {
        GopVideoCodec codec = new GopVideoCodec(1, 0, 0);
        int[] rows = new int[64];
        for (int y = 0; y < 8; y++) {
            for (int x = 0; x < 8; x++) {
                rows[8 * y + x] = 3 + x + 20 * y;
            }
        }
        CHECKS.due("appendGradient(3, 1, 20)", codec.appendGradient(3, 1, 20), 0);
        CHECKS.pixels("appendGradient(3, 1, 20)", codec, GopVideoCodec.PLANE_INPUT, 0, rows);
        edges(10, 2, 3, new int[] {10, 12, 14, 16, 18, 20, 22, 24}, new int[] {10, 13, 16, 19, 22, 25, 28, 31});
    }

    private static void clampedAtBothEnds() {
        flat(-1, 0);
        flat(0, 0);
        flat(1, 1);
        flat(254, 254);
        flat(255, 255);
        flat(256, 255);
        flat(-1000, 0);
        flat(1000, 255);
        edges(250, 2, -50, new int[] {250, 252, 254, 255, 255, 255, 255, 255},
                new int[] {250, 200, 150, 100, 50, 0, 0, 0});
        edges(-5, 3, 60, new int[] {0, 0, 1, 4, 7, 10, 13, 16}, new int[] {0, 55, 115, 175, 235, 255, 255, 255});
        // The sum is clamped, not its parts: -700 + 100 * 7 = 0 and 955 - 100 * 7 = 255.
        edges(-700, 100, 101, new int[] {0, 0, 0, 0, 0, 0, 0, 0}, new int[] {0, 0, 0, 0, 0, 0, 0, 7});
        edges(955, -100, -101, new int[] {255, 255, 255, 255, 255, 255, 255, 255},
                new int[] {255, 255, 255, 255, 255, 255, 255, 248});
    }

    private static void theSumWraps() {
        edges(Integer.MAX_VALUE, 1, -1, new int[] {255, 0, 0, 0, 0, 0, 0, 0},
                new int[] {255, 255, 255, 255, 255, 255, 255, 255});
        edges(Integer.MIN_VALUE, -1, Integer.MIN_VALUE, new int[] {0, 255, 255, 255, 255, 255, 255, 255},
                new int[] {0, 0, 0, 0, 0, 0, 0, 0});
    }

    private static void theProductWraps() {
        edges(7, 1 << 30, 1 << 29, new int[] {7, 255, 0, 0, 7, 255, 0, 0}, new int[] {7, 255, 255, 255, 0, 0, 0, 0});
        edges(9, Integer.MIN_VALUE, Integer.MAX_VALUE, new int[] {9, 0, 9, 0, 9, 0, 9, 0},
                new int[] {9, 0, 7, 0, 5, 0, 3, 0});
        // 3 * 1431655766 = 2 and 5 * 858993460 = 4 after the wrap.
        edges(0, 1431655766, 858993460, new int[] {0, 255, 0, 2, 255, 0, 4, 255},
                new int[] {0, 255, 255, 0, 0, 4, 255, 255});
    }

    private static void anyIntIsAccepted() {
        for (int base : Checks.EDGES) {
            for (int gx : Checks.EDGES) {
                for (int gy : Checks.EDGES) {
                    GopVideoCodec codec = new GopVideoCodec(1, 0, 0);
                    String call = "appendGradient(" + base + ", " + gx + ", " + gy + ")";
                    CHECKS.due(call, codec.appendGradient(base, gx, gy), 0);
                    int corner = base + 7 * gx + 7 * gy;
                    int want = corner < 0 ? 0 : corner > 255 ? 255 : corner;
                    CHECKS.due(call + " pixel(0, 0, 7, 7)", codec.pixel(0, 0, 7, 7), want);
                }
            }
        }
    }

    public static void main(String[] args) {
        AppendAnswers answers = new AppendAnswers(CHECKS, "appendGradient(1, 2, 3)", c -> c.appendGradient(1, 2, 3));
        answers.sentences();
        CHECKS.sentence("(x, y) is c255(base + gx * x + gy * y), for every x and y in 0..7",
                AppendGradientTest::everyPixel);
        CHECKS.sentence("c255: below 0 gives 0, above 255 gives 255", AppendGradientTest::clampedAtBothEnds);
        CHECKS.sentence("the sum is computed with wrap-around before the clamp", AppendGradientTest::theSumWraps);
        CHECKS.sentence("gx * x and gy * y are computed with wrap-around", AppendGradientTest::theProductWraps);
        CHECKS.sentence("any int values of base, gx and gy are accepted", AppendGradientTest::anyIntIsAccepted);
        CHECKS.finish();
    }
}
