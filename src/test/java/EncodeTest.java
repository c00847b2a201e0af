/** Promise 7; the types, the order, the modes, the search and the residual have tests of their own. */
public final class EncodeTest {
    private static final Checks CHECKS = new Checks();

    private static void refusedUnlessLoading() {
        for (Stage stage : Stage.values()) {
            if (stage.isCoded) {
                CHECKS.refused("encode() of " + stage, GopVideoCodec.NONE, GopVideoCodec::encode, stage::make);
            }
        }
    }

    private static void refusedWithoutFrames() {
        CHECKS.refused("encode() of a new object", GopVideoCodec.NONE, GopVideoCodec::encode, Stage.NEW::make);
        for (Stage stage : Stage.values()) {
            CHECKS.refused("encode() after reset() of " + stage, GopVideoCodec.NONE, GopVideoCodec::encode,
                    stage::makeAndReset);
        }
    }

    private static GopVideoCodec loaded(int n) {
        GopVideoCodec codec = new GopVideoCodec(16, 2, 3);
        for (int frame = 0; frame < n; frame++) {
            codec.appendTexture(50 + frame);
        }
        return codec;
    }

    private static void answersN() {
        for (int n = 1; n <= 8; n++) {
            CHECKS.due("encode() with n = " + n, loaded(n).encode(), n);
        }
    }

    private static void setsPhaseAndCounts() {
        for (int n = 1; n <= 8; n++) {
            GopVideoCodec codec = loaded(n);
            codec.encode();
            int[] status = {n, GopVideoCodec.PHASE_CODED, 0, 0, 16, 2, 3};
            for (int kind = 0; kind <= 6; kind++) {
                CHECKS.due("encode() status(" + kind + ")", codec.status(kind), status[kind]);
            }
        }
        // Counts that a group before has left behind.
        GopVideoCodec codec = Stage.DECODED_FULL.makeAndReset();
        codec.appendTexture(1);
        codec.encode();
        CHECKS.due("encode() of the next group: decoded count", codec.status(GopVideoCodec.STATUS_DECODED), 0);
        CHECKS.due("encode() of the next group: output count", codec.status(GopVideoCodec.STATUS_OUTPUT), 0);
        CHECKS.due("encode() of the next group: decodeNext()", codec.decodeNext(), 0);
    }

    /** Every call but decodeNext and reset, with arguments that would be taken while loading and with wrong ones. */
    private static void callAllElse(GopVideoCodec codec) {
        for (int k : Checks.EDGES) {
            codec.appendGradient(k, 1, 1);
            codec.appendTexture(k);
            codec.appendMoved(k, 1, 0, 0);
            codec.setPixel(k, 1, 1, 1);
            codec.setPixel(0, 1, 1, k);
            codec.encode();
            codec.status(k);
            codec.frameType(k);
            codec.codingOrder(k);
            codec.blockMode(k, 0);
            codec.blockVector(0, k, k, k);
            codec.nonZero(0, k);
            codec.pixel(k, 0, k, k);
            codec.outputFrame(k);
        }
    }

    private static void nothingButDecodeNextChangesTheState() {
        for (Stage stage : Stage.values()) {
            if (stage.isCoded) {
                CHECKS.changesNothing("all calls on " + stage, EncodeTest::callAllElse, stage::make);
            }
        }
    }

    private static void inputStaysReadableAndUnchanged() {
        for (int n = 1; n <= 8; n++) {
            GopVideoCodec codec = loaded(n);
            int[][] inputs = new int[n][];
            for (int frame = 0; frame < n; frame++) {
                inputs[frame] = Checks.picture(codec, GopVideoCodec.PLANE_INPUT, frame);
            }
            codec.encode();
            for (int round = 0; round < 2; round++) {
                for (int frame = 0; frame < n; frame++) {
                    CHECKS.pixels("after encode()", codec, GopVideoCodec.PLANE_INPUT, frame, inputs[frame]);
                }
                Checks.decodeAll(codec);
            }
        }
    }

    private static void inputAsItIsAtEncode() {
        GopVideoCodec codec = new GopVideoCodec(1, 0, 0);
        codec.appendGradient(10, 0, 0);
        codec.setPixel(0, 6, 1, 99);
        codec.encode();
        CHECKS.due("edited pixel(1, 0, 6, 1)", codec.pixel(1, 0, 6, 1), 99);
        CHECKS.due("edited nonZero(0, 1)", codec.nonZero(0, 1), 16);
        CHECKS.due("not edited nonZero(0, 0)", codec.nonZero(0, 0), 1);
    }

    /** The least and the greatest place of each block, told by the one pixel of the frame that is off. */
    private static void blocksAreQuarters() {
        int[][] corners = {{0, 0, 0}, {3, 3, 0}, {4, 0, 1}, {7, 3, 1}, {0, 4, 2}, {3, 7, 2}, {4, 4, 3}, {7, 7, 3}};
        for (int[] corner : corners) {
            int[] rows = Checks.flat(128);
            rows[8 * corner[1] + corner[0]] = 140;
            GopVideoCodec codec = Checks.coded(new GopVideoCodec(1, 0, 0), rows);
            for (int block = 0; block < 4; block++) {
                CHECKS.due("pixel (" + corner[0] + ", " + corner[1] + ") is off: nonZero(0, " + block + ")",
                        codec.nonZero(0, block), block == corner[2] ? 16 : 0);
            }
        }
    }

    private static void shades(int quant, int bFrames, int[] shades, int[] modes, int[] nonZeros) {
        int[][] frames = new int[shades.length][];
        for (int frame = 0; frame < shades.length; frame++) {
            frames[frame] = Checks.flat(shades[frame]);
        }
        GopVideoCodec codec = Checks.coded(new GopVideoCodec(quant, 1, bFrames), frames);
        for (int frame = 0; frame < shades.length; frame++) {
            for (int block = 0; block < 4; block++) {
                String of = "(" + frame + ", " + block + ")";
                CHECKS.due("shades: blockMode" + of, codec.blockMode(frame, block), modes[frame]);
                CHECKS.due("shades: nonZero" + of, codec.nonZero(frame, block), nonZeros[frame]);
            }
        }
    }

    private static void intraPredicts128() {
        shades(1, 0, new int[] {127}, new int[] {0}, new int[] {1});
        shades(1, 0, new int[] {128}, new int[] {0}, new int[] {0});
        shades(1, 0, new int[] {129}, new int[] {0}, new int[] {1});
    }

    /** I P P P: each P frame looks at the frame just before it, whatever lies further back. */
    private static void forwardIsTheAnchorJustBelow() {
        shades(1, 0, new int[] {50, 100, 50, 50}, new int[] {0, 1, 1, 1}, new int[] {1, 1, 1, 0});
        // I B P B P: frame 4 looks at 2, not at 3.
        shades(1, 1, new int[] {50, 50, 90, 120, 120}, new int[] {0, 1, 1, 2, 1}, new int[] {1, 0, 1, 0, 1});
        // I B B P B B P P: frame 5 lies nearest to B frame 4, but equals neither anchor.
        shades(1, 2, new int[] {50, 100, 50, 100, 50, 200, 200, 200}, new int[] {0, 2, 1, 1, 1, 2, 1, 1},
                new int[] {1, 0, 0, 1, 1, 0, 1, 0});
    }

    /** I B B P B B P: the frames of the second group equal anchor 0, 3 or 6; 0 is too far. */
    private static void backwardIsTheAnchorJustAbove() {
        shades(1, 2, new int[] {10, 200, 60, 60, 10, 200, 200}, new int[] {0, 2, 2, 1, 1, 2, 1},
                new int[] {1, 1, 0, 1, 1, 0, 1});
    }

    private static void referencesAreRecon() {
        // At Qs = 64 frame 0 becomes 132, so nothing is left to code in frames 1 and 2.
        shades(64, 1, new int[] {130, 132, 132}, new int[] {0, 1, 1}, new int[] {1, 0, 0});
        // Frame 2 becomes 124 and frame 1, at 124, equals it; its input, 126, would leave -32.
        shades(64, 1, new int[] {128, 124, 126}, new int[] {0, 2, 1}, new int[] {0, 0, 1});
        // The costs too are of the recon: frame 1 equals an anchor's input, but lies midway between
        // what the anchors become, 128 and 132.
        shades(64, 1, new int[] {128, 130, 130}, new int[] {0, 3, 1}, new int[] {0, 0, 1});
        shades(64, 1, new int[] {130, 130, 128}, new int[] {0, 3, 1}, new int[] {1, 0, 1});
        // So is the cost of both: frame 1 is the mean of 132 and 136, the inputs' would be 132.
        shades(64, 1, new int[] {130, 134, 134}, new int[] {0, 3, 1}, new int[] {1, 0, 1});
    }

    public static void main(String[] args) {
        CHECKS.sentence("refused when the phase is not PHASE_LOADING", EncodeTest::refusedUnlessLoading);
        CHECKS.sentence("refused when n == 0", EncodeTest::refusedWithoutFrames);
        CHECKS.sentence("answers n", EncodeTest::answersN);
        CHECKS.sentence("sets the phase to PHASE_CODED and the counts to 0", EncodeTest::setsPhaseAndCounts);
        CHECKS.sentence("until reset() nothing but decodeNext changes the state",
                EncodeTest::nothingButDecodeNextChangesTheState);
        CHECKS.sentence("input pixels stay readable and unchanged", EncodeTest::inputStaysReadableAndUnchanged);
        CHECKS.sentence("using the input pixels as they are at encode()", EncodeTest::inputAsItIsAtEncode);
        CHECKS.sentence("block b has left column 4 * (b % 2) and top row 4 * (b / 2)", EncodeTest::blocksAreQuarters);
        CHECKS.sentence("I frame: p = 128 everywhere", EncodeTest::intraPredicts128);
        CHECKS.sentence("F: the anchor with the greatest display index below", EncodeTest::forwardIsTheAnchorJustBelow);
        CHECKS.sentence("G: the anchor with the least display index above", EncodeTest::backwardIsTheAnchorJustAbove);
        CHECKS.sentence("F and G are recon, not input", EncodeTest::referencesAreRecon);
        CHECKS.finish();
    }
}
