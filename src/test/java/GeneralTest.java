/** The sections "What it is" and "Notation", where they name an edge that holds for all promises. */
public final class GeneralTest {
    private static final Checks CHECKS = new Checks();

    private static void aFrameIs8By8() {
        GopVideoCodec codec = new GopVideoCodec(1, 0, 0);
        codec.appendGradient(0, 1, 16);
        int readable = 0;
        for (int y = -2; y <= 9; y++) {
            for (int x = -2; x <= 9; x++) {
                boolean isInside = x >= 0 && x <= 7 && y >= 0 && y <= 7;
                int want = isInside ? x + 16 * y : GopVideoCodec.NONE;
                CHECKS.due("pixel(0, 0, " + x + ", " + y + ")", codec.pixel(0, 0, x, y), want);
                readable += codec.pixel(0, 0, x, y) != GopVideoCodec.NONE ? 1 : 0;
            }
        }
        CHECKS.due("pixels of a frame", readable, 64);
    }

    private static int appendAny(GopVideoCodec codec, int kind) {
        switch (kind) {
            case 0:
                return codec.appendGradient(1, 2, 3);
            case 1:
                return codec.appendTexture(4);
            default:
                return codec.appendMoved(0, 1, 1, 1);
        }
    }

    /** The three kinds by turns, however the group begins. */
    private static void indicesGrowFrom0() {
        for (int first = 0; first <= 1; first++) {
            GopVideoCodec codec = new GopVideoCodec(1, 0, 0);
            for (int k = 0; k < 8; k++) {
                CHECKS.due("append " + k, appendAny(codec, (first + k) % 3), k);
            }
        }
    }

    private static void upTo8Frames() {
        GopVideoCodec codec = new GopVideoCodec(1, 0, 0);
        for (int k = 0; k < 30; k++) {
            int want = k < 8 ? k : GopVideoCodec.NONE;
            CHECKS.due("append " + k, appendAny(codec, k % 3), want);
            CHECKS.due("n after append " + k, codec.status(GopVideoCodec.STATUS_FRAMES), Math.min(k + 1, 8));
        }
        CHECKS.due("MAX_FRAMES", GopVideoCodec.MAX_FRAMES, 8);
    }

    /** A group of the full length may come again and again: nothing runs over. */
    private static void fullGroupsOneAfterAnother() {
        GopVideoCodec codec = Stage.fresh();
        for (int group = 0; group < 20; group++) {
            GopVideoCodec other = Stage.fresh();
            for (int k = 0; k < 8; k++) {
                codec.appendTexture(8 * group + k);
                other.appendTexture(8 * group + k);
            }
            CHECKS.due("encode() of group " + group, codec.encode(), 8);
            other.encode();
            Checks.decodeAll(codec);
            Checks.decodeAll(other);
            CHECKS.sameAnswers("does group " + group + " answer as on a new object?",
                    Checks.allAnswers(codec), Checks.allAnswers(other));
            CHECKS.samePixels("group " + group, codec, GopVideoCodec.PLANE_OUTPUT, GopVideoCodec.PLANE_RECON, 6);
            codec.reset();
        }
    }

    /** Two objects with calls by turns answer as each would alone. */
    private static void objectsAreApart() {
        GopVideoCodec one = Stage.LOADING.make();
        GopVideoCodec other = Stage.PARTLY_DECODED.make();
        one.appendTexture(5);
        other.decodeNext();
        one.encode();
        other.decodeNext();
        one.decodeNext();
        GopVideoCodec alone = Stage.LOADING.make();
        alone.appendTexture(5);
        alone.encode();
        alone.decodeNext();
        CHECKS.sameAnswers("does one go on as it would alone?", Checks.future(one), Checks.future(alone));
        alone = Stage.PARTLY_DECODED.make();
        alone.decodeNext();
        alone.decodeNext();
        CHECKS.sameAnswers("does the other go on as it would alone?", Checks.future(other), Checks.future(alone));
    }

    public static void main(String[] args) {
        CHECKS.sentence("a frame is 8x8 pixels; (x, y) has column x and row y, both 0..7", GeneralTest::aFrameIs8By8);
        CHECKS.sentence("the first appended frame has index 0, the next 1, and so on", GeneralTest::indicesGrowFrom0);
        CHECKS.sentence("up to MAX_FRAMES frames are appended", GeneralTest::upTo8Frames);
        CHECKS.sentence("the stream has room for a full group, every time", GeneralTest::fullGroupsOneAfterAnother);
        CHECKS.sentence("the stream is kept inside the object", GeneralTest::objectsAreApart);
        CHECKS.finish();
    }
}
