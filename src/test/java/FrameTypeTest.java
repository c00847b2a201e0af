/** Promise 10, and the types of promise 7. */
public final class FrameTypeTest {
    private static final Checks CHECKS = new Checks();
    private static final PerFrameAnswers ANSWERS = new PerFrameAnswers(CHECKS, "frameType", GopVideoCodec::frameType);

    private static void types(int bFrames, String types) {
        // The place of a letter in this word is the constant's value.
        ANSWERS.check(bFrames, types.chars().map("IPB"::indexOf).toArray());
    }

    public static void main(String[] args) {
        for (int bFrames = 0; bFrames <= 3; bFrames++) {
            types(bFrames, "I");
            types(bFrames, "IP");
        }
        types(0, "IPP");
        types(0, "IPPPPPPP");
        types(1, "IBP");
        types(1, "IBPP");
        types(1, "IBPBP");
        types(1, "IBPBPBPP");
        types(2, "IBP");
        types(2, "IBBP");
        types(2, "IBBPP");
        types(2, "IBBPBP");
        types(2, "IBBPBBP");
        types(2, "IBBPBBPP");
        types(3, "IBP");
        types(3, "IBBP");
        types(3, "IBBBP");
        types(3, "IBBBPP");
        types(3, "IBBBPBP");
        types(3, "IBBBPBBP");
        CHECKS.finish();
    }
}
