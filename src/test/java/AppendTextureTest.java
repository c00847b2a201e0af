/** Promise 4. */
public final class AppendTextureTest {
    private static final Checks CHECKS = new Checks();

    /** The pixels from the top left, row by row. */
    private static void begins(int seed, int... pixels) {
        GopVideoCodec codec = new GopVideoCodec(1, 0, 0);
        String call = "appendTexture(" + seed + ")";
        CHECKS.due(call, codec.appendTexture(seed), 0);
        for (int k = 0; k < pixels.length; k++) {
            CHECKS.due(call + " pixel(0, 0, " + k % 8 + ", " + k / 8 + ")", codec.pixel(0, 0, k % 8, k / 8), pixels[k]);
        }
    }

    /** The published numbers of this well-known generator, less their lower 24 bits; they fill a row first. */
    private static void rowByRow() {
        begins(0, 0x3C, 0x47, 0xD1, 0xAA, 0x62, 0x9F, 0x57, 0xA3, 0x81, 0x94, 0xCB);
    }

    private static int[] rowsOf(int seed) {
        int[] rows = new int[64];
        long s = seed & 0xFFFFFFFFL;
        for (int place = 0; place < 64; place++) {
            s = (s * 1664525L + 1013904223L) % 4294967296L;
            rows[place] = (int) (s / 16777216L);
        }
        return rows;
    }

    private static void everyStepWraps() {
        for (int seed : new int[] {0, 1, 7, 2580, -1, 12345}) {
            GopVideoCodec codec = new GopVideoCodec(1, 0, 0);
            codec.appendGradient(0, 0, 0);
            CHECKS.due("appendTexture(" + seed + ")", codec.appendTexture(seed), 1);
            CHECKS.pixels("appendTexture(" + seed + ")", codec, GopVideoCodec.PLANE_INPUT, 1, rowsOf(seed));
        }
    }

    private static void theShiftIsUnsigned() {
        // 1013904223 with the top bit turned: an odd factor carries the top bit on.
        begins(Integer.MIN_VALUE, 0xBC, 0xC7, 0x51);
        for (int seed = 0; seed < 300; seed++) {
            GopVideoCodec codec = new GopVideoCodec(1, 0, 0);
            codec.appendTexture(seed);
            for (int value : Checks.picture(codec, GopVideoCodec.PLANE_INPUT, 0)) {
                CHECKS.due("appendTexture(" + seed + "): is " + value + " in 0..255?",
                        value >= 0 && value <= 255, true);
            }
        }
    }

    private static void anySeedIsAccepted() {
        // 1664525 + 1013904223 = 0x3C88596C; 1013904223 - 1664525 = 0x3C558D52.
        begins(1, 0x3C);
        begins(-1, 0x3C);
        for (int seed : Checks.EDGES) {
            GopVideoCodec codec = new GopVideoCodec(1, 0, 0);
            CHECKS.due("appendTexture(" + seed + ")", codec.appendTexture(seed), 0);
            CHECKS.pixels("appendTexture(" + seed + ")", codec, GopVideoCodec.PLANE_INPUT, 0, rowsOf(seed));
        }
    }

    public static void main(String[] args) {
        AppendAnswers answers = new AppendAnswers(CHECKS, "appendTexture(5)", c -> c.appendTexture(5));
        answers.sentences();
        CHECKS.sentence("starts with s = seed; y is the outer loop, x the inner", AppendTextureTest::rowByRow);
        CHECKS.sentence("s * 1664525 + 1013904223 with wrap-around", AppendTextureTest::everyStepWraps);
        CHECKS.sentence("the unsigned shift, so the value is always in 0..255", AppendTextureTest::theShiftIsUnsigned);
        CHECKS.sentence("any int seed is accepted", AppendTextureTest::anySeedIsAccepted);
        CHECKS.finish();
    }
}
