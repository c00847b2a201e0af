/** Promise 9. */
public final class StatusTest {
    private static final Checks CHECKS = new Checks();

    private static void all(String after, GopVideoCodec codec, int... want) {
        int[] before = Checks.allAnswers(codec);
        for (int kind = 0; kind <= 6; kind++) {
            CHECKS.due(after + " status(" + kind + ")", codec.status(kind), want[kind]);
        }
        for (int kind : new int[] {Integer.MIN_VALUE, -2, -1, 7, 8, 64, Integer.MAX_VALUE}) {
            CHECKS.due(after + " status(" + kind + ")", codec.status(kind), GopVideoCodec.NONE);
        }
        CHECKS.unchanged(after + " status", before, codec);
    }

    public static void main(String[] args) {
        GopVideoCodec codec = new GopVideoCodec(33, 1, 2);
        all("new", codec, 0, 0, 0, 0, 33, 1, 2);
        for (int n = 1; n <= 4; n++) {
            codec.appendTexture(n);
            all("append", codec, n, 0, 0, 0, 33, 1, 2);
        }
        codec.encode();
        all("encode", codec, 4, 1, 0, 0, 33, 1, 2);
        // Coding order 0 3 1 2.
        int[] outputs = {1, 1, 2, 4};
        for (int k = 0; k < 4; k++) {
            codec.decodeNext();
            all("decodeNext " + k, codec, 4, 1, k + 1, outputs[k], 33, 1, 2);
        }
        codec.decodeNext();
        all("refused decodeNext", codec, 4, 1, 4, 4, 33, 1, 2);
        codec.reset();
        all("reset", codec, 0, 0, 0, 0, 33, 1, 2);
        CHECKS.finish();
    }
}
