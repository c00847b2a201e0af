/** Promise 14. */
public final class NonZeroTest {
    private static final Checks CHECKS = new Checks();

    private static void counts(String name, GopVideoCodec codec, int frame, int... want) {
        for (int block = 0; block < 4; block++) {
            CHECKS.due(name + ": nonZero(" + frame + ", " + block + ")", codec.nonZero(frame, block), want[block]);
        }
    }

    /** Block 0 equals its prediction, and in block 3 one pixel is off, so all coefficients are. */
    private static void from0To16() {
        int[] rows = Checks.flat(128);
        rows[8 * 5 + 6] = 0;
        for (int quant : new int[] {1, 2, 64}) {
            counts("Qs = " + quant, Checks.coded(new GopVideoCodec(quant, 0, 0), rows), 0, 0, 0, 0, 16);
        }
    }

    private static void levelsOtherThan0Count() {
        int[] rows = Checks.flat(128);
        // Block 1: one pixel off, so every coefficient is 10 or -10.
        rows[8 * 2 + 5] = 138;
        // Block 2: all off by 3, so the first coefficient alone, 48.
        for (int place = 0; place < 16; place++) {
            rows[(4 + place / 4) * 8 + place % 4] = 131;
        }
        // Block 3: two rows of four by 5, so two coefficients, 40 each.
        for (int place = 0; place < 8; place++) {
            rows[(4 + place / 4) * 8 + 4 + place % 4] = 133;
        }
        // With Qs the least that counts is (Qs + 1) / 2.
        int[] quants = {1, 20, 21, 64};
        int[][] wants = {{0, 16, 1, 2}, {0, 16, 1, 2}, {0, 0, 1, 2}, {0, 0, 1, 2}};
        for (int k = 0; k < 4; k++) {
            GopVideoCodec codec = Checks.coded(new GopVideoCodec(quants[k], 0, 0), rows);
            counts("Qs = " + quants[k], codec, 0, wants[k]);
            Checks.decodeAll(codec);
            counts("Qs = " + quants[k] + ", decoded", codec, 0, wants[k]);
        }
    }

    private static GopVideoCodec between(int first, int shade, int last) {
        return Checks.coded(new GopVideoCodec(1, 0, 1), Checks.flat(first), Checks.flat(shade), Checks.flat(last));
    }

    private static void withTheChosenPrediction() {
        counts("both", between(100, 150, 200), 1, 0, 0, 0, 0);
        counts("backward", between(100, 200, 200), 1, 0, 0, 0, 0);
        counts("forward", between(100, 100, 200), 1, 0, 0, 0, 0);
        counts("near forward", between(100, 101, 200), 1, 1, 1, 1, 1);
        counts("P frame", between(100, 101, 200), 2, 1, 1, 1, 1);
        counts("P frame like its anchor", between(100, 101, 100), 2, 0, 0, 0, 0);
    }

    public static void main(String[] args) {
        CodedAnswers answers = new CodedAnswers(CHECKS, "nonZero", GopVideoCodec.NONE, GopVideoCodec::nonZero);
        answers.blockSentences();
        CHECKS.sentence("the number of (u, v) with level[u][v] != 0", NonZeroTest::levelsOtherThan0Count);
        CHECKS.sentence("in that block (0..16)", NonZeroTest::from0To16);
        CHECKS.sentence("for the levels computed with the block's chosen prediction",
                NonZeroTest::withTheChosenPrediction);
        CHECKS.finish();
    }
}
