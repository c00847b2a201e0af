/** Promise 8. */
public final class DecodeNextTest {
    private static final Checks CHECKS = new Checks();
    // For each M the coding order with n = 8, and the output count after each call.
    private static final String[] ORDERS = {"01234567", "02143657", "03126457", "04123756"};
    private static final String[] OUTPUTS = {"12345678", "11335578", "11244578", "11235568"};

    private static void refusedUnlessCoded() {
        for (Stage stage : Stage.values()) {
            if (!stage.isCoded) {
                CHECKS.refused("decodeNext() of " + stage, GopVideoCodec.NONE, GopVideoCodec::decodeNext, stage::make);
            }
            CHECKS.refused("decodeNext() after reset() of " + stage, GopVideoCodec.NONE, GopVideoCodec::decodeNext,
                    stage::makeAndReset);
        }
    }

    private static void refusedWhenAllIsDecoded() {
        CHECKS.refused("decodeNext() after 5 of 5", GopVideoCodec.NONE, GopVideoCodec::decodeNext, Stage.DECODED::make);
        CHECKS.refused("decodeNext() after 8 of 8", GopVideoCodec.NONE, GopVideoCodec::decodeNext,
                Stage.DECODED_FULL::make);
        GopVideoCodec one = new GopVideoCodec(3, 1, 1);
        one.appendTexture(1);
        one.encode();
        CHECKS.due("decodeNext() of a lone frame", one.decodeNext(), 0);
        for (int k = 0; k < 10; k++) {
            CHECKS.due("decodeNext() after 1 of 1", one.decodeNext(), GopVideoCodec.NONE);
            CHECKS.due("decodeNext() after 1 of 1: decoded count", one.status(GopVideoCodec.STATUS_DECODED), 1);
        }
    }

    private static GopVideoCodec coded(int quant, int bFrames, int n) {
        GopVideoCodec codec = new GopVideoCodec(quant, 2, bFrames);
        for (int frame = 0; frame < n; frame++) {
            codec.appendTexture(frame / 2);
            codec.setPixel(frame, frame, 3, 200);
        }
        codec.encode();
        return codec;
    }

    private static void inCodingOrder() {
        for (int bFrames = 0; bFrames <= 3; bFrames++) {
            GopVideoCodec codec = coded(30, bFrames, 8);
            for (int pos = 0; pos < 8; pos++) {
                String name = "M = " + bFrames + ", call " + pos;
                CHECKS.due(name + ": decodeNext()", codec.decodeNext(), ORDERS[bFrames].charAt(pos) - '0');
                CHECKS.due(name + ": decoded count", codec.status(GopVideoCodec.STATUS_DECODED), pos + 1);
            }
        }
    }

    private static void released(int bFrames, String outputs) {
        GopVideoCodec codec = coded(30, bFrames, outputs.length());
        for (int pos = 0; pos < outputs.length(); pos++) {
            codec.decodeNext();
            CHECKS.due("M = " + bFrames + ", call " + pos + ": output count",
                    codec.status(GopVideoCodec.STATUS_OUTPUT), outputs.charAt(pos) - '0');
        }
    }

    private static void releasedAsSoonAsPossible() {
        for (int bFrames = 0; bFrames <= 3; bFrames++) {
            released(bFrames, OUTPUTS[bFrames]);
            released(bFrames, "1");
            released(bFrames, "12");
        }
        released(1, "113");
        released(2, "1124");
        released(3, "11235");
    }

    /** The greatest m such that the coding positions below the decoded count hold all of 0..m-1. */
    private static int dueOutputCount(GopVideoCodec codec) {
        boolean[] isDecoded = new boolean[9];
        for (int pos = 0; pos < codec.status(GopVideoCodec.STATUS_DECODED); pos++) {
            isDecoded[codec.codingOrder(pos)] = true;
        }
        int m = 0;
        while (isDecoded[m]) {
            m++;
        }
        return m;
    }

    private static void theGreatestRunFrom0() {
        for (int at = 0; at < 32; at++) {
            int n = 1 + at / 4;
            GopVideoCodec codec = coded(30, at % 4, n);
            for (int call = 0; call <= n + 1; call++) {
                CHECKS.due("M = " + at % 4 + ", n = " + n + ", after call " + call + ": output count",
                        codec.status(GopVideoCodec.STATUS_OUTPUT), dueOutputCount(codec));
                codec.decodeNext();
            }
        }
    }

    private static void theKthReleasedIsFrameK() {
        for (int bFrames = 0; bFrames <= 3; bFrames++) {
            GopVideoCodec codec = coded(30, bFrames, 8);
            for (int pos = 0; pos < 8; pos++) {
                codec.decodeNext();
                int released = OUTPUTS[bFrames].charAt(pos) - '0';
                for (int k = 0; k < 8; k++) {
                    CHECKS.due("M = " + bFrames + ", call " + pos + ": outputFrame(" + k + ")",
                            codec.outputFrame(k), k < released ? k : GopVideoCodec.NONE);
                }
            }
        }
    }

    private static void countsStayInOrder() {
        for (int at = 0; at < 32; at++) {
            int n = 1 + at / 4;
            GopVideoCodec codec = coded(30, at % 4, n);
            for (int call = 0; call <= n + 1; call++) {
                int decoded = codec.status(GopVideoCodec.STATUS_DECODED);
                int output = codec.status(GopVideoCodec.STATUS_OUTPUT);
                CHECKS.due("M = " + at % 4 + ", n = " + n + ": is 0 <= " + output + " <= " + decoded + " <= n?",
                        0 <= output && output <= decoded && decoded <= n, true);
                codec.decodeNext();
            }
        }
    }

    private static void allAreReleasedInTheEnd() {
        for (int at = 0; at < 32; at++) {
            int n = 1 + at / 4;
            GopVideoCodec codec = coded(30, at % 4, n);
            for (int call = 0; call < n; call++) {
                codec.decodeNext();
            }
            String name = "M = " + at % 4 + ", n = " + n;
            CHECKS.due(name + ": decoded count", codec.status(GopVideoCodec.STATUS_DECODED), n);
            CHECKS.due(name + ": output count", codec.status(GopVideoCodec.STATUS_OUTPUT), n);
        }
    }

    private static void outputIsRecon(String name, GopVideoCodec codec) {
        Checks.decodeAll(codec);
        for (int frame = 0; frame < codec.status(GopVideoCodec.STATUS_FRAMES); frame++) {
            CHECKS.samePixels(name, codec, GopVideoCodec.PLANE_OUTPUT, GopVideoCodec.PLANE_RECON, frame);
        }
    }

    private static void decodedEqualsRecon() {
        for (int quant = 1; quant <= 64; quant++) {
            outputIsRecon("Qs = " + quant, coded(quant, quant % 4, 8));
        }
    }

    /** Black after white and white after black: coefficients of -4080 and 4080. */
    private static void greatestLevels(int quant) {
        GopVideoCodec codec = Checks.coded(new GopVideoCodec(quant, 2, quant % 4), Checks.flat(0), Checks.flat(255),
                Checks.flat(0), Checks.flat(255), Checks.flat(0), Checks.flat(255), Checks.flat(0), Checks.flat(255));
        outputIsRecon("greatest levels, Qs = " + quant, codec);
    }

    /** Stripes of black and white bring the greatest levels to the other places of a block. */
    private static void greatestLevelsOfStripes(int quant, int step) {
        int[] rows = new int[64];
        int[] negative = new int[64];
        for (int place = 0; place < 64; place++) {
            rows[place] = place / step % 2 * 255;
            negative[place] = 255 - rows[place];
        }
        GopVideoCodec codec = Checks.coded(new GopVideoCodec(quant, 0, 0), rows, negative, rows, negative);
        outputIsRecon("stripes, Qs = " + quant + ", step " + step, codec);
    }

    private static void theStreamCarriesTheGreatestLevels() {
        for (int quant : new int[] {1, 2, 3, 31, 63, 64}) {
            greatestLevels(quant);
            for (int step : new int[] {1, 2, 8, 16}) {
                greatestLevelsOfStripes(quant, step);
            }
        }
    }

    /** Every vector part from -2 to 2, in both lists, has to go through the stream. */
    private static void theStreamCarriesTheLongestVectors() {
        for (int dy = -2; dy <= 2; dy++) {
            for (int dx = -2; dx <= 2; dx++) {
                GopVideoCodec codec = new GopVideoCodec(1, 2, 2);
                codec.appendTexture(3);
                codec.appendMoved(0, dx, dy, 0);
                codec.appendGradient(0, 0, 0);
                codec.appendTexture(4);
                for (int place = 0; place < 64; place++) {
                    int x = Math.max(0, Math.min(7, place % 8 + dx));
                    int y = Math.max(0, Math.min(7, place / 8 + dy));
                    codec.setPixel(2, place % 8, place / 8, codec.pixel(GopVideoCodec.PLANE_INPUT, 3, x, y));
                }
                codec.encode();
                CHECKS.due("list 0, vx", codec.blockVector(1, 0, 0, 0), -dx);
                CHECKS.due("list 1, vy", codec.blockVector(2, 0, 1, 1), dy);
                outputIsRecon("moved " + dx + ", " + dy, codec);
            }
        }
    }

    /** Input, recon, types, order and block data. */
    private static int[] encoderAnswers(GopVideoCodec codec) {
        int[] answers = new int[2 * 512 + 8 * 26];
        int size = 0;
        for (int frame = 0; frame < 8; frame++) {
            for (int place = 0; place < 64; place++) {
                answers[size++] = codec.pixel(GopVideoCodec.PLANE_INPUT, frame, place % 8, place / 8);
                answers[size++] = codec.pixel(GopVideoCodec.PLANE_RECON, frame, place % 8, place / 8);
            }
            answers[size++] = codec.frameType(frame);
            answers[size++] = codec.codingOrder(frame);
            for (int block = 0; block < 4; block++) {
                answers[size++] = codec.blockMode(frame, block);
                answers[size++] = codec.nonZero(frame, block);
                for (int part = 0; part < 4; part++) {
                    answers[size++] = codec.blockVector(frame, block, part / 2, part % 2);
                }
            }
        }
        return answers;
    }

    private static void theEncodersAnswersDoNotChange() {
        for (int bFrames = 0; bFrames <= 3; bFrames++) {
            GopVideoCodec codec = coded(30, bFrames, 8);
            int[] kept = encoderAnswers(codec);
            for (int call = 0; call < 9; call++) {
                codec.decodeNext();
                CHECKS.sameAnswers("M = " + bFrames + ", call " + call + ": are the encoder's answers as before?",
                        encoderAnswers(codec), kept);
            }
        }
    }

    public static void main(String[] args) {
        CHECKS.sentence("refused when the phase is not PHASE_CODED", DecodeNextTest::refusedUnlessCoded);
        CHECKS.sentence("refused when the decoded count equals n", DecodeNextTest::refusedWhenAllIsDecoded);
        CHECKS.sentence("decodes the frame at coding position (decoded count), which grows by one",
                DecodeNextTest::inCodingOrder);
        CHECKS.sentence("the decoded picture equals the encoder's recon", DecodeNextTest::decodedEqualsRecon);
        CHECKS.sentence("the stream carries everything: the greatest levels",
                DecodeNextTest::theStreamCarriesTheGreatestLevels);
        CHECKS.sentence("the stream carries everything: the longest vectors",
                DecodeNextTest::theStreamCarriesTheLongestVectors);
        CHECKS.sentence("RELEASE: at the earliest moment the coding order allows",
                DecodeNextTest::releasedAsSoonAsPossible);
        CHECKS.sentence("0 <= output count <= decoded count <= n", DecodeNextTest::countsStayInOrder);
        CHECKS.sentence("the k-th released frame is display frame k", DecodeNextTest::theKthReleasedIsFrameK);
        CHECKS.sentence("the output count is the greatest m <= n with 0..m-1 all decoded",
                DecodeNextTest::theGreatestRunFrom0);
        CHECKS.sentence("once all n frames are decoded, the output count is n", DecodeNextTest::allAreReleasedInTheEnd);
        CHECKS.sentence("with order 0 3 1 2 4 the output counts are 1, 1, 2, 4, 5", () -> released(2, "11245"));
        CHECKS.sentence("input, recon, types, order and block data do not change",
                DecodeNextTest::theEncodersAnswersDoNotChange);
        CHECKS.finish();
    }
}
