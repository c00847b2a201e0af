/** Promise 16. */
public final class OutputFrameTest {
    private static final Checks CHECKS = new Checks();

    private static void released(String after, GopVideoCodec codec, int count) {
        int[] before = Checks.allAnswers(codec);
        for (int k = 0; k < 8; k++) {
            CHECKS.due(after + ": outputFrame(" + k + ")", codec.outputFrame(k), k < count ? k : GopVideoCodec.NONE);
        }
        for (int k : new int[] {Integer.MIN_VALUE, -2, -1, 8, 9, Integer.MAX_VALUE}) {
            CHECKS.due(after + ": outputFrame(" + k + ")", codec.outputFrame(k), GopVideoCodec.NONE);
        }
        CHECKS.unchanged(after + ": outputFrame", before, codec);
    }

    public static void main(String[] args) {
        GopVideoCodec codec = new GopVideoCodec(10, 1, 3);
        released("new", codec, 0);
        for (int frame = 0; frame < 8; frame++) {
            codec.appendTexture(frame);
        }
        released("loaded", codec, 0);
        codec.encode();
        released("encode", codec, 0);
        // Coding order 0 4 1 2 3 7 5 6.
        int[] counts = {1, 1, 2, 3, 5, 5, 6, 8, 8};
        for (int count : counts) {
            codec.decodeNext();
            released("decodeNext", codec, count);
        }
        codec.reset();
        released("reset", codec, 0);
        CHECKS.finish();
    }
}
