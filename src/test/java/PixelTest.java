/** Promise 15. */
public final class PixelTest {
    private static final Checks CHECKS = new Checks();

    /** How many frames can be read on each plane. */
    private static void readable(String after, GopVideoCodec codec, int input, int recon, int output) {
        int[] before = Checks.allAnswers(codec);
        int[] counts = {input, recon, output};
        for (int plane = 0; plane <= 2; plane++) {
            for (int frame = 0; frame < 8; frame++) {
                int answer = codec.pixel(plane, frame, 3, 6);
                String call = after + ": pixel(" + plane + ", " + frame + ", 3, 6)";
                CHECKS.due(call + " is readable?", answer != GopVideoCodec.NONE, frame < counts[plane]);
                CHECKS.due(call + " is in range?", answer >= GopVideoCodec.NONE && answer <= 255, true);
            }
            for (int wrong : new int[] {Integer.MIN_VALUE, -8, -1, 8, 9, Integer.MAX_VALUE}) {
                none(after, codec, plane, wrong, 0, 0);
                none(after, codec, plane, 0, wrong, 0);
                none(after, codec, plane, 0, 0, wrong);
            }
        }
        for (int plane : new int[] {Integer.MIN_VALUE, -1, 3, 4, Integer.MAX_VALUE}) {
            none(after, codec, plane, 0, 0, 0);
        }
        CHECKS.unchanged(after + ": pixel", before, codec);
    }

    private static void none(String after, GopVideoCodec codec, int plane, int frame, int x, int y) {
        CHECKS.due(after + ": pixel(" + plane + ", " + frame + ", " + x + ", " + y + ")",
                codec.pixel(plane, frame, x, y), GopVideoCodec.NONE);
    }

    public static void main(String[] args) {
        GopVideoCodec codec = new GopVideoCodec(64, 0, 2);
        readable("new", codec, 0, 0, 0);
        for (int frame = 0; frame < 5; frame++) {
            codec.appendGradient(130 + frame, 1, 9);
            readable("append", codec, frame + 1, 0, 0);
        }
        codec.encode();
        readable("encode", codec, 5, 5, 0);
        int[] outputs = {1, 1, 2, 4, 5, 5};
        for (int output : outputs) {
            codec.decodeNext();
            readable("decodeNext", codec, 5, 5, output);
            for (int frame = 0; frame < output; frame++) {
                CHECKS.samePixels("output", codec, GopVideoCodec.PLANE_OUTPUT, GopVideoCodec.PLANE_RECON, frame);
            }
        }
        for (int place = 0; place < 64; place++) {
            CHECKS.due("input at place " + place, codec.pixel(0, 4, place % 8, place / 8),
                    134 + place % 8 + 9 * (place / 8));
        }
        codec.reset();
        readable("reset", codec, 0, 0, 0);

        // The planes are told apart: at Qs = 64 a flat 130 comes back as 132.
        codec.appendGradient(130, 0, 0);
        codec.encode();
        codec.decodeNext();
        CHECKS.pixels("flat", codec, GopVideoCodec.PLANE_INPUT, 0, Checks.flat(130));
        CHECKS.pixels("flat", codec, GopVideoCodec.PLANE_RECON, 0, Checks.flat(132));
        CHECKS.pixels("flat", codec, GopVideoCodec.PLANE_OUTPUT, 0, Checks.flat(132));
        CHECKS.finish();
    }
}
