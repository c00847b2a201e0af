/** Promise 1. */
public final class ConstructionTest {
    private static final Checks CHECKS = new Checks();

    private static void clamped(int quant, int range, int bFrames, int qs, int r, int m) {
        GopVideoCodec codec = new GopVideoCodec(quant, range, bFrames);
        settings("new(" + quant + ", " + range + ", " + bFrames + ")", codec, qs, r, m);
        for (int kind = 0; kind <= 3; kind++) {
            CHECKS.due("status(" + kind + ") of a new object", codec.status(kind), 0);
        }
    }

    private static void settings(String after, GopVideoCodec codec, int qs, int r, int m) {
        CHECKS.due(after + " status(4)", codec.status(GopVideoCodec.STATUS_QUANT), qs);
        CHECKS.due(after + " status(5)", codec.status(GopVideoCodec.STATUS_RANGE), r);
        CHECKS.due(after + " status(6)", codec.status(GopVideoCodec.STATUS_BFRAMES), m);
    }

    private static void settingsNeverChange(int qs, int r, int m) {
        GopVideoCodec codec = new GopVideoCodec(qs, r, m);
        for (int round = 0; round < 2; round++) {
            for (int k = 0; k < 9; k++) {
                codec.appendTexture(k);
                codec.appendGradient(k, 1, 1);
                codec.appendMoved(k, 1, 1, 1);
                codec.setPixel(k, k, k, k);
                settings("after appends", codec, qs, r, m);
            }
            codec.encode();
            settings("after encode()", codec, qs, r, m);
            for (int k = 0; k < 9; k++) {
                codec.decodeNext();
                settings("after decodeNext()", codec, qs, r, m);
            }
            codec.reset();
            settings("after reset()", codec, qs, r, m);
        }
    }

    public static void main(String[] args) {
        clamped(8, 1, 2, 8, 1, 2);
        clamped(1, 0, 0, 1, 0, 0);
        clamped(64, 2, 3, 64, 2, 3);
        clamped(63, 2, 1, 63, 2, 1);
        clamped(2, 1, 3, 2, 1, 3);
        clamped(0, -1, -1, 1, 0, 0);
        clamped(65, 3, 4, 64, 2, 3);
        clamped(-3, -5, -7, 1, 0, 0);
        clamped(1000, 1000, 1000, 64, 2, 3);
        clamped(Integer.MIN_VALUE, Integer.MIN_VALUE, Integer.MIN_VALUE, 1, 0, 0);
        clamped(Integer.MAX_VALUE, Integer.MAX_VALUE, Integer.MAX_VALUE, 64, 2, 3);
        settingsNeverChange(1, 0, 0);
        settingsNeverChange(17, 1, 2);
        settingsNeverChange(64, 2, 3);

        GopVideoCodec one = new GopVideoCodec(5, 1, 1);
        GopVideoCodec other = new GopVideoCodec(6, 2, 2);
        one.appendTexture(1);
        CHECKS.due("status(0) of another object", other.status(0), 0);
        settings("another object", other, 6, 2, 2);
        CHECKS.finish();
    }
}
