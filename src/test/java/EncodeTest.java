/** Promise 7. The types and the order have tests of their own. */
public final class EncodeTest {
    private static final Checks CHECKS = new Checks();
    private static final int[][] H = {{1, 1, 1, 1}, {1, 1, -1, -1}, {1, -1, -1, 1}, {1, -1, 1, -1}};

    private static void refusals() {
        GopVideoCodec codec = new GopVideoCodec(4, 1, 2);
        refused("encode() without frames", codec);
        codec.appendTexture(3);
        codec.appendTexture(4);
        codec.encode();
        refused("a second encode()", codec);
        codec.decodeNext();
        refused("encode() after one decodeNext()", codec);
        codec.decodeNext();
        refused("encode() after all is decoded", codec);
        codec.reset();
        refused("encode() after reset()", codec);
    }

    private static void refused(String call, GopVideoCodec codec) {
        int[] before = Checks.allAnswers(codec);
        CHECKS.due(call, codec.encode(), GopVideoCodec.NONE);
        CHECKS.unchanged(call, before, codec);
    }

    private static void answersAndCounts() {
        for (int n = 1; n <= 8; n++) {
            GopVideoCodec codec = new GopVideoCodec(16, 2, 3);
            int[][] inputs = new int[n][64];
            for (int frame = 0; frame < n; frame++) {
                codec.appendTexture(50 + frame);
                for (int place = 0; place < 64; place++) {
                    inputs[frame][place] = codec.pixel(0, frame, place % 8, place / 8);
                }
            }
            CHECKS.due("encode() with n = " + n, codec.encode(), n);
            int[] status = {n, GopVideoCodec.PHASE_CODED, 0, 0, 16, 2, 3};
            for (int kind = 0; kind <= 6; kind++) {
                CHECKS.due("encode() status(" + kind + ")", codec.status(kind), status[kind]);
            }
            for (int frame = 0; frame < n; frame++) {
                CHECKS.pixels("encode()", codec, GopVideoCodec.PLANE_INPUT, frame, inputs[frame]);
            }
        }
    }

    /** A flat I frame has one coefficient a block, 16 * (value - 128). */
    private static void flatIntra(int quant, int value, int nonZero, int recon) {
        GopVideoCodec codec = new GopVideoCodec(quant, 2, 1);
        codec.appendGradient(value, 0, 0);
        codec.encode();
        String name = "Qs = " + quant + ", flat " + value;
        CHECKS.pixels(name, codec, GopVideoCodec.PLANE_RECON, 0, Checks.flat(recon));
        for (int block = 0; block < 4; block++) {
            CHECKS.due(name + " nonZero(0, " + block + ")", codec.nonZero(0, block), nonZero);
            CHECKS.due(name + " blockMode(0, " + block + ")", codec.blockMode(0, block), GopVideoCodec.MODE_INTRA);
        }
    }

    private static void flatIntras() {
        flatIntra(64, 128, 0, 128);
        // 16: (16 + 32) / 64 = 0. 32: level 1, (64 + 8) >> 4 = 4. -32: level -1, (-64 + 8) >> 4 = -4.
        flatIntra(64, 129, 0, 128);
        flatIntra(64, 127, 0, 128);
        flatIntra(64, 130, 1, 132);
        flatIntra(64, 126, 1, 124);
        // 48: level 2, (40 + 8) >> 4 = 3. -48: level -2, (-40 + 8) >> 4 = -2.
        flatIntra(20, 131, 1, 131);
        flatIntra(20, 125, 1, 126);
        // -128: level -5, (-120 + 8) >> 4 = -7.
        flatIntra(24, 120, 1, 121);
        // An odd Qs: 32: (32 + 10) / 21 = 2, (42 + 8) >> 4 = 3. -32: (-42 + 8) >> 4 = -3.
        flatIntra(21, 130, 1, 131);
        flatIntra(21, 126, 1, 125);
        // 2032: level 32, (2048 + 8) >> 4 = 128: 256 is clamped.
        flatIntra(64, 255, 1, 255);
        // -2048: level -43, (-2064 + 8) >> 4 = -129: -1 is clamped.
        flatIntra(48, 0, 1, 0);
        // The ends of what a level can be in an I frame.
        flatIntra(1, 0, 1, 0);
        flatIntra(1, 255, 1, 255);
    }

    /** 128 plus or minus 2 in the signs of one pattern: a single coefficient, 32 at Qs = 64. */
    private static void onePattern(int u, int v) {
        int[] rows = new int[64];
        int[] recon = new int[64];
        for (int place = 0; place < 64; place++) {
            int sign = H[u][place / 8 % 4] * H[v][place % 4];
            rows[place] = 128 + 2 * sign;
            recon[place] = 128 + 4 * sign;
        }
        GopVideoCodec codec = new GopVideoCodec(64, 0, 0);
        Checks.append(codec, rows);
        codec.encode();
        String name = "pattern " + u + ", " + v;
        CHECKS.pixels(name, codec, GopVideoCodec.PLANE_RECON, 0, recon);
        for (int block = 0; block < 4; block++) {
            CHECKS.due(name + " nonZero(0, " + block + ")", codec.nonZero(0, block), 1);
        }
    }

    /** The 8 is added once after the whole sum: 8 a pattern would push this one over. */
    private static void roundingIsOfTheWholeSum() {
        GopVideoCodec codec = new GopVideoCodec(5, 0, 0);
        int[] rows = Checks.flat(128);
        rows[0] = 129;
        Checks.append(codec, rows);
        codec.encode();
        // Every coefficient of block 0 is 1 or -1, and (1 + 2) / 5 = 0.
        CHECKS.due("one pixel off by 1, Qs = 5: nonZero(0, 0)", codec.nonZero(0, 0), 0);
        CHECKS.due("one pixel off by 1, Qs = 5: pixel(1, 0, 0, 0)", codec.pixel(1, 0, 0, 0), 128);
        codec.reset();
        rows[0] = 131;
        Checks.append(codec, rows);
        codec.encode();
        // Every coefficient is 3 or -3 and its level 1 or -1: at the pixel (16 * 5 + 8) >> 4 = 5,
        // elsewhere the terms cancel out.
        int[] recon = Checks.flat(128);
        recon[0] = 133;
        CHECKS.due("one pixel off by 3, Qs = 5: nonZero(0, 0)", codec.nonZero(0, 0), 16);
        CHECKS.pixels("one pixel off by 3, Qs = 5", codec, GopVideoCodec.PLANE_RECON, 0, recon);
    }

    private static void losslessWithQuantOne() {
        for (int bFrames = 0; bFrames <= 3; bFrames++) {
            GopVideoCodec codec = new GopVideoCodec(1, 2, bFrames);
            for (int k = 0; k < 4; k++) {
                codec.appendTexture(1000 * k);
                // Black beside white makes the greatest residuals there are.
                codec.appendGradient(k % 2 == 0 ? 0 : 255, 0, 0);
            }
            codec.encode();
            for (int frame = 0; frame < 8; frame++) {
                CHECKS.samePixels("Qs = 1", codec, GopVideoCodec.PLANE_RECON, GopVideoCodec.PLANE_INPUT, frame);
            }
        }
    }

    private static void referencesAreReconNotInput() {
        GopVideoCodec codec = new GopVideoCodec(64, 1, 1);
        codec.appendGradient(130, 0, 0);
        codec.appendGradient(132, 0, 0);
        codec.appendGradient(132, 0, 0);
        codec.encode();
        // Frame 0 becomes 132, so nothing is left to code in frames 1 and 2.
        for (int frame = 0; frame < 3; frame++) {
            CHECKS.pixels("recon as reference", codec, GopVideoCodec.PLANE_RECON, frame, Checks.flat(132));
            CHECKS.due("recon as reference: nonZero(" + frame + ", 2)", codec.nonZero(frame, 2), frame == 0 ? 1 : 0);
        }
    }

    /** Each frame's one reference or two, told by a level of 0 for the frame that equals them. */
    private static void referencesAreTheNearestAnchors() {
        GopVideoCodec codec = new GopVideoCodec(1, 0, 2);
        int[] shades = {50, 100, 50, 100, 50, 200, 200, 200};
        for (int shade : shades) {
            codec.appendGradient(shade, 0, 0);
        }
        codec.encode();
        // I B B P B B P P; frame 1 equals anchor 3, 2 equals anchor 0, 4 equals no anchor around
        // it (100 and 200) and lies nearer to 3, 5 equals anchor 6, 7 equals anchor 6.
        int[] modes = {0, 2, 1, 1, 1, 2, 1, 1};
        int[] nonZeros = {1, 0, 0, 1, 1, 0, 1, 0};
        for (int frame = 0; frame < 8; frame++) {
            CHECKS.due("anchors: blockMode(" + frame + ", 1)", codec.blockMode(frame, 1), modes[frame]);
            CHECKS.due("anchors: nonZero(" + frame + ", 1)", codec.nonZero(frame, 1), nonZeros[frame]);
        }
    }

    private static void inputAsItIsAtEncode() {
        GopVideoCodec codec = new GopVideoCodec(1, 0, 0);
        codec.appendGradient(10, 0, 0);
        codec.setPixel(0, 6, 1, 99);
        codec.encode();
        CHECKS.due("edited pixel(1, 0, 6, 1)", codec.pixel(1, 0, 6, 1), 99);
        CHECKS.due("edited nonZero(0, 1)", codec.nonZero(0, 1), 16);
        CHECKS.due("not edited nonZero(0, 0)", codec.nonZero(0, 0), 1);
    }

    public static void main(String[] args) {
        refusals();
        answersAndCounts();
        flatIntras();
        for (int pattern = 0; pattern < 16; pattern++) {
            onePattern(pattern / 4, pattern % 4);
        }
        roundingIsOfTheWholeSum();
        losslessWithQuantOne();
        referencesAreReconNotInput();
        referencesAreTheNearestAnchors();
        inputAsItIsAtEncode();
        CHECKS.finish();
    }
}
