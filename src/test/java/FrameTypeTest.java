/** Promise 10, and "Frame types" of promise 7. */
public final class FrameTypeTest {
    private static final Checks CHECKS = new Checks();

    private static void types(int bFrames, String types) {
        int n = types.length();
        GopVideoCodec codec = new GopVideoCodec(8, 0, bFrames);
        for (int frame = 0; frame < n; frame++) {
            codec.appendTexture(frame);
        }
        codec.encode();
        for (int round = 0; round < 2; round++) {
            for (int frame = 0; frame < n; frame++) {
                // The place of a letter in this word is the constant's value.
                CHECKS.due("M = " + bFrames + ", n = " + n + ": frameType(" + frame + ")",
                        codec.frameType(frame), "IPB".indexOf(types.charAt(frame)));
            }
            Checks.decodeAll(codec);
        }
    }

    /** A lone frame is the last one too, and still an I frame. */
    private static void frame0IsI() {
        for (int bFrames = 0; bFrames <= 3; bFrames++) {
            types(bFrames, "I");
        }
    }

    private static void multiplesOfMPlus1AreP() {
        types(1, "IBPBPBPP");
        types(2, "IBBPBBPP");
        types(3, "IBBBPBBP");
    }

    private static void theLastFrameIsAnAnchor() {
        for (int bFrames = 0; bFrames <= 3; bFrames++) {
            types(bFrames, "IP");
        }
        types(1, "IBPP");
        types(2, "IBP");
        types(2, "IBBPP");
        types(2, "IBBPBP");
        types(3, "IBP");
        types(3, "IBBP");
        types(3, "IBBBPP");
        types(3, "IBBBPBP");
    }

    /** The last frame is an anchor for both reasons at once. */
    private static void theLastFrameIsAMultiple() {
        types(1, "IBP");
        types(1, "IBPBP");
        types(1, "IBPBPBP");
        types(2, "IBBP");
        types(2, "IBBPBBP");
        types(3, "IBBBP");
    }

    private static void withoutBFramesAllArePAfterTheFirst() {
        types(0, "IP");
        types(0, "IPP");
        types(0, "IPPPPPP");
        types(0, "IPPPPPPP");
    }

    public static void main(String[] args) {
        CodedAnswers answers = new CodedAnswers(CHECKS, "frameType", GopVideoCodec.NONE,
                (codec, frame, block) -> codec.frameType(frame));
        answers.frameSentences("frame");
        CHECKS.sentence("display index 0 is TYPE_I", FrameTypeTest::frame0IsI);
        CHECKS.sentence("k > 0 is TYPE_P when k % (M + 1) == 0, otherwise TYPE_B",
                FrameTypeTest::multiplesOfMPlus1AreP);
        CHECKS.sentence("or k == n - 1: the last frame is always an anchor", FrameTypeTest::theLastFrameIsAnAnchor);
        CHECKS.sentence("k == n - 1 and k % (M + 1) == 0", FrameTypeTest::theLastFrameIsAMultiple);
        CHECKS.sentence("with M = 0 every frame after the first is TYPE_P",
                FrameTypeTest::withoutBFramesAllArePAfterTheFirst);
        CHECKS.sentence("example: with n = 5 and M = 2 the types are I B B P P", () -> types(2, "IBBPP"));
        CHECKS.finish();
    }
}
