/** Promise 7, "Residual": the levels and the recon, at the edges of each rounding and each clamp. */
public final class ResidualTest {
    private static final Checks CHECKS = new Checks();
    private static final int[][] H = {{1, 1, 1, 1}, {1, 1, -1, -1}, {1, -1, -1, 1}, {1, -1, 1, -1}};

    /** A flat I frame has one coefficient a block, 16 * (value - 128). */
    private static void flat(int quant, int value, int nonZero, int recon) {
        GopVideoCodec codec = Checks.coded(new GopVideoCodec(quant, 2, 1), Checks.flat(value));
        String name = "Qs = " + quant + ", flat " + value;
        CHECKS.pixels(name, codec, GopVideoCodec.PLANE_RECON, 0, Checks.flat(recon));
        for (int block = 0; block < 4; block++) {
            CHECKS.due(name + " nonZero(0, " + block + ")", codec.nonZero(0, block), nonZero);
        }
    }

    /** Pixel (1, 2) of an I frame is off: all 16 coefficients of block 0 are that much, with either sign. */
    private static void onePixel(int quant, int off, int nonZero, int reconOff) {
        int[] rows = Checks.flat(128);
        int[] recon = Checks.flat(128);
        rows[8 * 2 + 1] = 128 + off;
        recon[8 * 2 + 1] = 128 + reconOff;
        GopVideoCodec codec = Checks.coded(new GopVideoCodec(quant, 0, 0), rows);
        String name = "Qs = " + quant + ", one pixel off by " + off;
        CHECKS.due(name + " nonZero(0, 0)", codec.nonZero(0, 0), nonZero);
        CHECKS.pixels(name, codec, GopVideoCodec.PLANE_RECON, 0, recon);
    }

    /** 128 plus or minus 2 in the signs of one pattern: a single coefficient, 32, so level 1 at Qs = 64. */
    private static void eachPatternOfH() {
        for (int pattern = 0; pattern < 16; pattern++) {
            int[] rows = new int[64];
            int[] recon = new int[64];
            for (int place = 0; place < 64; place++) {
                int sign = H[pattern / 4][place / 8 % 4] * H[pattern % 4][place % 4];
                rows[place] = 128 + 2 * sign;
                recon[place] = 128 + 4 * sign;
            }
            GopVideoCodec codec = Checks.coded(new GopVideoCodec(64, 0, 0), rows);
            String name = "pattern " + pattern / 4 + ", " + pattern % 4;
            CHECKS.pixels(name, codec, GopVideoCodec.PLANE_RECON, 0, recon);
            for (int block = 0; block < 4; block++) {
                CHECKS.due(name + " nonZero(0, " + block + ")", codec.nonZero(0, block), 1);
            }
        }
    }

    private static void halfOfAnEvenQuantIsALevel() {
        for (int quant = 2; quant <= 64; quant += 2) {
            onePixel(quant, quant / 2 - 1, 0, 0);
            onePixel(quant, quant / 2, 16, quant);
            onePixel(quant, 3 * quant / 2 - 1, 16, quant);
        }
    }

    /** Qs / 2 is rounded down, so the middle of an odd Qs is no level yet. */
    private static void halfOfAnOddQuantIsNoLevel() {
        for (int quant = 3; quant <= 63; quant += 2) {
            onePixel(quant, quant / 2, 0, 0);
            onePixel(quant, quant / 2 + 1, 16, quant);
            onePixel(quant, quant + quant / 2, 16, quant);
        }
    }

    private static void negativeLevelsMirrorPositiveOnes() {
        for (int quant = 2; quant <= 64; quant++) {
            onePixel(quant, -((quant - 1) / 2), 0, 0);
            onePixel(quant, -((quant + 1) / 2), 16, -quant);
        }
        // 16 and 32 at Qs = 64: level 0 and level 1 on either side of 128.
        flat(64, 129, 0, 128);
        flat(64, 127, 0, 128);
        flat(64, 130, 1, 132);
        flat(64, 126, 1, 124);
    }

    /** The sums here end off the multiples of 16, where the floor and truncation differ below 0. */
    private static void theShiftIsTheFloor() {
        // 32: level 2, (42 + 8) >> 4 = 3. -32: level -2, (-42 + 8) >> 4 = -3, where truncation gives -2.
        flat(21, 130, 1, 131);
        flat(21, 126, 1, 125);
        // 16: level 2, (18 + 8) >> 4 = 1. -16: level -2, (-18 + 8) >> 4 = -1, where truncation gives 0.
        flat(9, 129, 1, 129);
        flat(9, 127, 1, 127);
    }

    /** Sums of one and a half and of two and a half steps of 16, and what lies beside them. */
    private static void halfGoesUp() {
        flat(24, 129, 1, 130);
        flat(24, 127, 1, 127);
        flat(23, 129, 1, 129);
        flat(23, 127, 1, 127);
        flat(25, 129, 1, 130);
        flat(25, 127, 1, 126);
        // 48 and -48: level 2 and -2, sums of 40 and -40.
        flat(20, 131, 1, 131);
        flat(20, 125, 1, 126);
    }

    /** Each of the 16 terms at the pixel is Qs: 8 added to each, or to each row, would push it over. */
    private static void the8IsAddedOnce() {
        onePixel(5, 1, 0, 0);
        onePixel(5, 3, 16, 5);
        onePixel(5, -3, 16, -5);
        onePixel(1, 1, 16, 1);
        onePixel(1, -1, 16, -1);
    }

    private static void reconIsClampedAt255() {
        // 2032: level 32, (2048 + 8) >> 4 = 128: 256 is clamped.
        flat(64, 255, 1, 255);
        // 254: 2016 is level 32 too. 251: 1968 is level 31, 1984: 124.
        flat(64, 254, 1, 255);
        flat(64, 251, 1, 252);
    }

    private static void reconIsClampedAt0() {
        // -2048: level -43, (-2064 + 8) >> 4 = -129: -1 is clamped.
        flat(48, 0, 1, 0);
        flat(64, 0, 1, 0);
        // -2032: level -32, -2048: -128, so 0 without a clamp. -2000: level -31, -1984: 4.
        flat(64, 1, 1, 0);
        flat(64, 3, 1, 4);
    }

    /** Black and white by turns: the rounding of the level goes past the end for many a Qs. */
    private static void reconOfPredictedFramesIsClamped(int quant) {
        GopVideoCodec codec = Checks.coded(new GopVideoCodec(quant, 0, 0),
                Checks.flat(0), Checks.flat(255), Checks.flat(0), Checks.flat(255));
        for (int frame = 1; frame < 4; frame++) {
            for (int value : Checks.picture(codec, GopVideoCodec.PLANE_RECON, frame)) {
                CHECKS.due("Qs = " + quant + ": is " + value + " in 0..255?", value >= 0 && value <= 255, true);
                CHECKS.due("Qs = " + quant + ": is " + value + " near its input?",
                        Math.abs(value - (frame % 2 == 0 ? 0 : 255)) <= quant / 32 + 1, true);
            }
        }
    }

    private static void everyReconPixelIsAPixel() {
        for (int quant = 1; quant <= 64; quant++) {
            reconOfPredictedFramesIsClamped(quant);
        }
    }

    private static void losslessWithQuantOne() {
        for (int bFrames = 0; bFrames <= 3; bFrames++) {
            GopVideoCodec codec = new GopVideoCodec(1, 2, bFrames);
            for (int k = 0; k < 4; k++) {
                codec.appendTexture(1000 * k);
                // Black beside white makes the greatest residuals there are.
                codec.appendGradient(k % 2 == 0 ? 0 : 255, 0, 0);
            }
            codec.encode();
            for (int frame = 0; frame < 8; frame++) {
                CHECKS.samePixels("Qs = 1", codec, GopVideoCodec.PLANE_RECON, GopVideoCodec.PLANE_INPUT, frame);
            }
        }
        flat(1, 0, 1, 0);
        flat(1, 128, 0, 128);
        flat(1, 255, 1, 255);
    }

    public static void main(String[] args) {
        CHECKS.sentence("H, and Y as the sum of H[u][i] * X[i][j] * H[v][j]", ResidualTest::eachPatternOfH);
        CHECKS.sentence("level = (|Y| + Qs / 2) / Qs, Qs even", ResidualTest::halfOfAnEvenQuantIsALevel);
        CHECKS.sentence("level = (|Y| + Qs / 2) / Qs, Qs odd", ResidualTest::halfOfAnOddQuantIsNoLevel);
        CHECKS.sentence("negated when Y < 0", ResidualTest::negativeLevelsMirrorPositiveOnes);
        CHECKS.sentence("a >> b is the arithmetic shift (the floor)", ResidualTest::theShiftIsTheFloor);
        CHECKS.sentence("D = (sum + 8) >> 4: half goes up", ResidualTest::halfGoesUp);
        CHECKS.sentence("the 8 added once, after the whole sum", ResidualTest::the8IsAddedOnce);
        CHECKS.sentence("recon is c255: above 255 gives 255", ResidualTest::reconIsClampedAt255);
        CHECKS.sentence("recon is c255: below 0 gives 0", ResidualTest::reconIsClampedAt0);
        CHECKS.sentence("recon is c255, in predicted frames too", ResidualTest::everyReconPixelIsAPixel);
        CHECKS.sentence("Qs = 1 makes recon equal input", ResidualTest::losslessWithQuantOne);
        CHECKS.finish();
    }
}
