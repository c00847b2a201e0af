/** Promise 14. */
public final class NonZeroTest {
    private static final Checks CHECKS = new Checks();

    private static void counts(String name, GopVideoCodec codec, int frame, int... want) {
        for (int block = 0; block < 4; block++) {
            CHECKS.due(name + ": nonZero(" + frame + ", " + block + ")", codec.nonZero(frame, block), want[block]);
        }
    }

    public static void main(String[] args) {
        int[] rows = Checks.flat(128);
        // Block 1: one pixel off, so every coefficient is 10 or -10.
        rows[4] = 138;
        // Block 2: all off by 3, so the first coefficient alone, 48.
        for (int place = 0; place < 16; place++) {
            rows[(4 + place / 4) * 8 + place % 4] = 131;
        }
        // Block 3: two rows of four by 5, so two coefficients, 40 each.
        for (int place = 0; place < 8; place++) {
            rows[(4 + place / 4) * 8 + 4 + place % 4] = 133;
        }
        // With Qs the least that counts is (Qs + 1) / 2.
        int[] quants = {1, 20, 21, 64};
        int[][] wants = {{0, 16, 1, 2}, {0, 16, 1, 2}, {0, 0, 1, 2}, {0, 0, 1, 2}};
        for (int k = 0; k < 4; k++) {
            GopVideoCodec codec = new GopVideoCodec(quants[k], 0, 0);
            Checks.append(codec, rows);
            codec.encode();
            counts("Qs = " + quants[k], codec, 0, wants[k]);
            Checks.decodeAll(codec);
            counts("Qs = " + quants[k] + ", decoded", codec, 0, wants[k]);
        }

        // The levels are those of the chosen prediction, not of another mode's.
        GopVideoCodec codec = BlockAnswers.coded(Checks.flat(100), Checks.flat(150), Checks.flat(200));
        counts("both", codec, 1, 0, 0, 0, 0);
        codec = BlockAnswers.coded(Checks.flat(100), Checks.flat(200), Checks.flat(200));
        counts("backward", codec, 1, 0, 0, 0, 0);
        codec = BlockAnswers.coded(Checks.flat(100), Checks.flat(100), Checks.flat(200));
        counts("forward", codec, 1, 0, 0, 0, 0);
        codec = BlockAnswers.coded(Checks.flat(100), Checks.flat(101), Checks.flat(200));
        counts("near forward", codec, 1, 1, 1, 1, 1);
        counts("P frame", codec, 2, 1, 1, 1, 1);

        BlockAnswers.checkRefusals(CHECKS, "nonZero", GopVideoCodec.NONE, GopVideoCodec::nonZero);
        CHECKS.finish();
    }
}
