/** Promise 8. */
public final class DecodeNextTest {
    private static final Checks CHECKS = new Checks();

    private static void decodes(int bFrames, String order, String outputs) {
        GopVideoCodec codec = new GopVideoCodec(30, 2, bFrames);
        int n = order.length();
        for (int frame = 0; frame < n; frame++) {
            codec.appendTexture(frame / 2);
            codec.setPixel(frame, frame, 3, 200);
        }
        refused("decodeNext() before encode()", codec);
        codec.encode();
        String name = "M = " + bFrames + ", n = " + n;
        for (int pos = 0; pos < n; pos++) {
            int[] kept = encoderAnswers(codec);
            CHECKS.due(name + ": decodeNext()", codec.decodeNext(), order.charAt(pos) - '0');
            int released = outputs.charAt(pos) - '0';
            CHECKS.due(name + ": decoded count", codec.status(GopVideoCodec.STATUS_DECODED), pos + 1);
            CHECKS.due(name + ": output count", codec.status(GopVideoCodec.STATUS_OUTPUT), released);
            CHECKS.due(name + ": encoder's answers are as before?",
                    java.util.Arrays.equals(kept, encoderAnswers(codec)), true);
            for (int k = 0; k < released; k++) {
                CHECKS.due(name + ": outputFrame(" + k + ")", codec.outputFrame(k), k);
                CHECKS.samePixels(name, codec, GopVideoCodec.PLANE_OUTPUT, GopVideoCodec.PLANE_RECON, k);
            }
            CHECKS.due(name + ": outputFrame(" + released + ")", codec.outputFrame(released), GopVideoCodec.NONE);
        }
        refused("decodeNext() after all is decoded", codec);
        refused("decodeNext() after all is decoded, again", codec);
        codec.reset();
        refused("decodeNext() after reset()", codec);
    }

    private static void refused(String call, GopVideoCodec codec) {
        int[] before = Checks.allAnswers(codec);
        CHECKS.due(call, codec.decodeNext(), GopVideoCodec.NONE);
        CHECKS.unchanged(call, before, codec);
    }

    /** Input, recon, types, order and block data. */
    private static int[] encoderAnswers(GopVideoCodec codec) {
        int[] answers = new int[2 * 512 + 8 * 26];
        int size = 0;
        for (int frame = 0; frame < 8; frame++) {
            for (int place = 0; place < 64; place++) {
                answers[size++] = codec.pixel(GopVideoCodec.PLANE_INPUT, frame, place % 8, place / 8);
                answers[size++] = codec.pixel(GopVideoCodec.PLANE_RECON, frame, place % 8, place / 8);
            }
            answers[size++] = codec.frameType(frame);
            answers[size++] = codec.codingOrder(frame);
            for (int block = 0; block < 4; block++) {
                answers[size++] = codec.blockMode(frame, block);
                answers[size++] = codec.nonZero(frame, block);
                for (int part = 0; part < 4; part++) {
                    answers[size++] = codec.blockVector(frame, block, part / 2, part % 2);
                }
            }
        }
        return answers;
    }

    /** The greatest levels and the full length that the stream must carry. */
    private static void extremes(int quant) {
        GopVideoCodec codec = new GopVideoCodec(quant, 2, 3);
        for (int frame = 0; frame < 8; frame++) {
            codec.appendGradient(frame % 4 == 0 ? 255 * (frame / 4) : 255 - 255 * (frame % 2), 0, 0);
            for (int place = 0; place < 64; place += 1 + frame) {
                codec.setPixel(frame, place % 8, place / 8, 255 * (place % 2));
            }
        }
        codec.encode();
        Checks.decodeAll(codec);
        CHECKS.due("extremes: output count", codec.status(GopVideoCodec.STATUS_OUTPUT), 8);
        for (int frame = 0; frame < 8; frame++) {
            CHECKS.samePixels("extremes", codec, GopVideoCodec.PLANE_OUTPUT, GopVideoCodec.PLANE_RECON, frame);
        }
    }

    /** Black after white and white after black: coefficients of -4080 and 4080. */
    private static void greatestLevels() {
        GopVideoCodec codec = new GopVideoCodec(1, 0, 0);
        int[] shades = {0, 255, 0};
        for (int shade : shades) {
            codec.appendGradient(shade, 0, 0);
        }
        codec.encode();
        Checks.decodeAll(codec);
        for (int frame = 0; frame < 3; frame++) {
            CHECKS.pixels("greatest levels", codec, GopVideoCodec.PLANE_OUTPUT, frame, Checks.flat(shades[frame]));
        }
    }

    public static void main(String[] args) {
        refused("decodeNext() of a new object", new GopVideoCodec(1, 0, 0));
        decodes(2, "03124", "11245");
        decodes(0, "0", "1");
        decodes(3, "01", "12");
        decodes(0, "01234567", "12345678");
        decodes(1, "021", "113");
        decodes(1, "02143657", "11335578");
        decodes(2, "03126457", "11244578");
        decodes(3, "04123756", "11235568");
        for (int quant : new int[] {1, 2, 7, 31, 63, 64}) {
            extremes(quant);
        }
        greatestLevels();
        CHECKS.finish();
    }
}
