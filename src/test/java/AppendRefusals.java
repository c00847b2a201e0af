/** What the three append calls have in common: which index is due and when they refuse. */
final class AppendRefusals {
    /** One of the append calls, with arguments that are in order once there is a frame. */
    interface Append {
        int to(GopVideoCodec codec);
    }

    static void check(Checks checks, String call, Append append) {
        GopVideoCodec codec = new GopVideoCodec(4, 1, 1);
        codec.appendTexture(1);
        for (int n = 1; n < GopVideoCodec.MAX_FRAMES; n++) {
            int[][] earlier = picturesOf(codec, n);
            checks.due(call + " with n = " + n, append.to(codec), n);
            checks.due(call + " status(0)", codec.status(0), n + 1);
            for (int kind = 1; kind <= 3; kind++) {
                checks.due(call + " status(" + kind + ")", codec.status(kind), 0);
            }
            for (int frame = 0; frame < n; frame++) {
                checks.pixels(call + " leaves", codec, GopVideoCodec.PLANE_INPUT, frame, earlier[frame]);
            }
        }
        refused(checks, call + " with n = 8", append, codec);
        codec.encode();
        refused(checks, call + " after encode() with n = 8", append, codec);

        GopVideoCodec coded = Checks.codedExample(4);
        refused(checks, call + " after encode()", append, coded);
        Checks.decodeAll(coded);
        refused(checks, call + " after all is decoded", append, coded);
    }

    private static void refused(Checks checks, String call, Append append, GopVideoCodec codec) {
        int[] before = Checks.allAnswers(codec);
        checks.due(call, append.to(codec), GopVideoCodec.NONE);
        checks.unchanged(call, before, codec);
    }

    private static int[][] picturesOf(GopVideoCodec codec, int n) {
        int[][] pictures = new int[n][64];
        for (int frame = 0; frame < n; frame++) {
            for (int place = 0; place < 64; place++) {
                pictures[frame][place] = codec.pixel(GopVideoCodec.PLANE_INPUT, frame, place % 8, place / 8);
            }
        }
        return pictures;
    }
}
