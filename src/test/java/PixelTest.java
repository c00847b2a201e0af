/** Promise 15. */
public final class PixelTest {
    private static final Checks CHECKS = new Checks();
    private static final int[] OUTSIDE = {Integer.MIN_VALUE, -64, -8, -1, 8, 9, 64, Integer.MAX_VALUE};

    private static void none(String of, GopVideoCodec codec, int plane, int frame, int x, int y) {
        CHECKS.due("pixel(" + plane + ", " + frame + ", " + x + ", " + y + ") of " + of,
                codec.pixel(plane, frame, x, y), GopVideoCodec.NONE);
    }

    private static void columnMustBeThere() {
        GopVideoCodec codec = Stage.DECODED_FULL.make();
        for (int plane = 0; plane <= 2; plane++) {
            for (int x : OUTSIDE) {
                none("DECODED_FULL", codec, plane, 0, x, 3);
                none("DECODED_FULL", codec, plane, 7, x, 7);
            }
        }
    }

    private static void rowMustBeThere() {
        GopVideoCodec codec = Stage.DECODED_FULL.make();
        for (int plane = 0; plane <= 2; plane++) {
            for (int y : OUTSIDE) {
                none("DECODED_FULL", codec, plane, 0, 3, y);
                none("DECODED_FULL", codec, plane, 7, 7, y);
            }
        }
    }

    /** Just the frames below the count can be read on the plane, at all four corners. */
    private static void readable(String of, GopVideoCodec codec, int plane, int count) {
        for (int corner = 0; corner < 4; corner++) {
            int x = corner % 2 * 7;
            int y = corner / 2 * 7;
            for (int frame = 0; frame < 8; frame++) {
                CHECKS.due("pixel(" + plane + ", " + frame + ", " + x + ", " + y + ") of " + of + " is readable?",
                        codec.pixel(plane, frame, x, y) != GopVideoCodec.NONE, frame < count);
            }
            for (int frame : OUTSIDE) {
                none(of, codec, plane, frame, x, y);
            }
        }
    }

    private static void inputInAnyPhase() {
        for (Stage stage : Stage.values()) {
            readable(stage.name(), stage.make(), GopVideoCodec.PLANE_INPUT, stage.frames);
            readable("reset " + stage, stage.makeAndReset(), GopVideoCodec.PLANE_INPUT, 0);
        }
    }

    private static void reconWhenCoded() {
        for (Stage stage : Stage.values()) {
            readable(stage.name(), stage.make(), GopVideoCodec.PLANE_RECON, stage.isCoded ? stage.frames : 0);
            readable("reset " + stage, stage.makeAndReset(), GopVideoCodec.PLANE_RECON, 0);
        }
    }

    private static void outputWhenReleased() {
        for (Stage stage : Stage.values()) {
            readable(stage.name(), stage.make(), GopVideoCodec.PLANE_OUTPUT, stage.outputCount);
            readable("reset " + stage, stage.makeAndReset(), GopVideoCodec.PLANE_OUTPUT, 0);
        }
        GopVideoCodec codec = Checks.codedExample(64);
        for (int output : new int[] {1, 1, 2, 4, 5, 5}) {
            codec.decodeNext();
            readable("the example", codec, GopVideoCodec.PLANE_OUTPUT, output);
        }
    }

    private static void theInputPixel() {
        GopVideoCodec codec = new GopVideoCodec(64, 0, 2);
        int[][] frames = new int[8][64];
        for (int frame = 0; frame < 8; frame++) {
            for (int place = 0; place < 64; place++) {
                frames[frame][place] = (frame + 3 * place) % 256;
            }
        }
        Checks.coded(codec, frames);
        for (int frame = 0; frame < 8; frame++) {
            CHECKS.pixels("input", codec, GopVideoCodec.PLANE_INPUT, frame, frames[frame]);
        }
    }

    /** At Qs = 64 a flat 130 comes back as 132. */
    private static void reconIsNotInput() {
        GopVideoCodec codec = Checks.coded(new GopVideoCodec(64, 0, 2), Checks.flat(130), Checks.flat(130));
        CHECKS.pixels("flat", codec, GopVideoCodec.PLANE_INPUT, 0, Checks.flat(130));
        CHECKS.pixels("flat", codec, GopVideoCodec.PLANE_RECON, 0, Checks.flat(132));
        CHECKS.pixels("flat", codec, GopVideoCodec.PLANE_RECON, 1, Checks.flat(128));
    }

    private static void outputEqualsRecon() {
        GopVideoCodec codec = Checks.codedExample(64);
        for (int output : new int[] {1, 1, 2, 4, 5}) {
            codec.decodeNext();
            for (int frame = 0; frame < output; frame++) {
                CHECKS.samePixels("output", codec, GopVideoCodec.PLANE_OUTPUT, GopVideoCodec.PLANE_RECON, frame);
            }
        }
    }

    private static void anyOtherPlaneIsNone() {
        for (Stage stage : Stage.values()) {
            GopVideoCodec codec = stage.make();
            for (int plane : new int[] {Integer.MIN_VALUE, -2, -1, 3, 4, 8, Integer.MAX_VALUE}) {
                for (int frame = 0; frame < 8; frame++) {
                    none(stage.name(), codec, plane, frame, 0, 0);
                }
            }
        }
    }

    private static void everyAnswerIsAPixelOrNone() {
        for (int quant = 1; quant <= 64; quant += 9) {
            GopVideoCodec codec = new GopVideoCodec(quant, 2, quant % 4);
            for (int frame = 0; frame < 8; frame++) {
                codec.appendTexture(frame);
                codec.setPixel(frame, 0, 0, 255);
                codec.setPixel(frame, 7, 7, 0);
            }
            codec.encode();
            Checks.decodeAll(codec);
            for (int at = 0; at < 3 * 8; at++) {
                for (int value : Checks.picture(codec, at / 8, at % 8)) {
                    CHECKS.due("plane " + at / 8 + ": is " + value + " in 0..255?", value >= 0 && value <= 255, true);
                }
            }
        }
    }

    private static void changesNothing() {
        for (Stage stage : Stage.values()) {
            CHECKS.changesNothing("pixel of " + stage, codec -> {
                for (int plane = -1; plane <= 3; plane++) {
                    for (int k : Checks.EDGES) {
                        codec.pixel(plane, k, 0, 0);
                        codec.pixel(plane, 0, k, 0);
                        codec.pixel(plane, 0, 0, k);
                    }
                }
            }, stage::make);
        }
    }

    public static void main(String[] args) {
        CHECKS.sentence("NONE when x is not in 0..7", PixelTest::columnMustBeThere);
        CHECKS.sentence("NONE when y is not in 0..7", PixelTest::rowMustBeThere);
        CHECKS.sentence("PLANE_INPUT: frame is in 0..n-1 (any phase)", PixelTest::inputInAnyPhase);
        CHECKS.sentence("PLANE_INPUT: the answer is the input pixel", PixelTest::theInputPixel);
        CHECKS.sentence("PLANE_RECON: the phase is PHASE_CODED and frame is in 0..n-1", PixelTest::reconWhenCoded);
        CHECKS.sentence("PLANE_RECON: the answer is the encoder's recon pixel", PixelTest::reconIsNotInput);
        CHECKS.sentence("PLANE_OUTPUT: frame is in 0..(output count - 1)", PixelTest::outputWhenReleased);
        CHECKS.sentence("PLANE_OUTPUT: this equals pixel(PLANE_RECON, frame, x, y)", PixelTest::outputEqualsRecon);
        CHECKS.sentence("any other plane: NONE", PixelTest::anyOtherPlaneIsNone);
        CHECKS.sentence("every non-NONE answer lies in 0..255", PixelTest::everyAnswerIsAPixelOrNone);
        CHECKS.sentence("it changes nothing", PixelTest::changesNothing);
        CHECKS.finish();
    }
}
