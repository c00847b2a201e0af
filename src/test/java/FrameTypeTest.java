/** Promise 10, and the types of promise 7. */
public final class FrameTypeTest {
    private static final Checks CHECKS = new Checks();

    private static void types(int bFrames, String types) {
        GopVideoCodec codec = new GopVideoCodec(8, 0, bFrames);
        int n = types.length();
        for (int frame = 0; frame < n; frame++) {
            codec.appendTexture(frame);
            CHECKS.due("frameType(" + frame + ") before encode()", codec.frameType(frame), GopVideoCodec.NONE);
        }
        codec.encode();
        for (int round = 0; round < 2; round++) {
            int[] before = Checks.allAnswers(codec);
            for (int frame = 0; frame < n; frame++) {
                CHECKS.due("M = " + bFrames + ", n = " + n + ": frameType(" + frame + ")",
                        codec.frameType(frame), "IPB".indexOf(types.charAt(frame)));
            }
            for (int frame : new int[] {Integer.MIN_VALUE, -1, n, n + 1, 8, 9, Integer.MAX_VALUE}) {
                CHECKS.due("n = " + n + ": frameType(" + frame + ")", codec.frameType(frame), GopVideoCodec.NONE);
            }
            CHECKS.unchanged("frameType", before, codec);
            Checks.decodeAll(codec);
        }
        codec.reset();
        CHECKS.due("frameType(0) after reset()", codec.frameType(0), GopVideoCodec.NONE);
    }

    public static void main(String[] args) {
        CHECKS.due("frameType(0) of a new object", new GopVideoCodec(1, 1, 1).frameType(0), GopVideoCodec.NONE);
        for (int bFrames = 0; bFrames <= 3; bFrames++) {
            types(bFrames, "I");
            types(bFrames, "IP");
        }
        types(0, "IPP");
        types(0, "IPPPPPPP");
        types(1, "IBP");
        types(1, "IBPP");
        types(1, "IBPBP");
        types(1, "IBPBPBPP");
        types(2, "IBP");
        types(2, "IBBP");
        types(2, "IBBPP");
        types(2, "IBBPBP");
        types(2, "IBBPBBP");
        types(2, "IBBPBBPP");
        types(3, "IBP");
        types(3, "IBBP");
        types(3, "IBBBP");
        types(3, "IBBBPP");
        types(3, "IBBBPBP");
        types(3, "IBBBPBBP");
        CHECKS.finish();
    }
}
