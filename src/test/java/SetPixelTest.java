/** Promise 6. */
public final class SetPixelTest {
    private static final Checks CHECKS = new Checks();

    private static GopVideoCodec withFrames() {
        GopVideoCodec codec = new GopVideoCodec(1, 1, 1);
        codec.appendGradient(100, 0, 0);
        codec.appendGradient(101, 0, 0);
        codec.appendGradient(102, 0, 0);
        return codec;
    }

    private static void taken(int frame, int x, int y, int value) {
        GopVideoCodec codec = withFrames();
        String call = "setPixel(" + frame + ", " + x + ", " + y + ", " + value + ")";
        CHECKS.due(call, codec.setPixel(frame, x, y, value), true);
        for (int other = 0; other < 3; other++) {
            int[] rows = Checks.flat(100 + other);
            if (other == frame) {
                rows[8 * y + x] = value;
            }
            CHECKS.pixels(call, codec, GopVideoCodec.PLANE_INPUT, other, rows);
        }
        int[] counts = {3, 0, 0, 0, 1, 1, 1};
        for (int kind = 0; kind <= 6; kind++) {
            CHECKS.due(call + " status(" + kind + ")", codec.status(kind), counts[kind]);
        }
    }

    private static void refused(GopVideoCodec codec, int frame, int x, int y, int value) {
        int[] before = Checks.allAnswers(codec);
        String call = "setPixel(" + frame + ", " + x + ", " + y + ", " + value + ")";
        CHECKS.due(call, codec.setPixel(frame, x, y, value), false);
        CHECKS.unchanged(call, before, codec);
    }

    public static void main(String[] args) {
        taken(0, 0, 0, 0);
        taken(0, 7, 7, 255);
        taken(1, 7, 0, 1);
        taken(1, 0, 7, 254);
        taken(2, 3, 5, 60);
        taken(2, 3, 5, 102);

        GopVideoCodec codec = withFrames();
        for (int wrong : new int[] {Integer.MIN_VALUE, -64, -8, -1, 8, 64, Integer.MAX_VALUE}) {
            refused(codec, wrong, 1, 1, 9);
            refused(codec, 1, wrong, 1, 9);
            refused(codec, 1, 1, wrong, 9);
        }
        refused(codec, 3, 1, 1, 9);
        for (int wrong : new int[] {Integer.MIN_VALUE, -1, 256, Integer.MAX_VALUE}) {
            refused(codec, 1, 1, 1, wrong);
        }
        refused(new GopVideoCodec(1, 1, 1), 0, 0, 0, 0);

        codec.encode();
        refused(codec, 1, 1, 1, 9);
        Checks.decodeAll(codec);
        refused(codec, 1, 1, 1, 9);
        codec.reset();
        refused(codec, 1, 1, 1, 9);
        CHECKS.finish();
    }
}
