/** The sections "What it is" and "Notation", where they name an edge that holds for all promises. */
public final class GeneralTest {
    private static final Checks CHECKS = new Checks();

    private static void aFrameIs8By8() {
        GopVideoCodec codec = new GopVideoCodec(1, 0, 0);
        codec.appendGradient(0, 1, 16);
        int readable = 0;
        for (int y = -2; y <= 9; y++) {
            for (int x = -2; x <= 9; x++) {
                boolean isInside = x >= 0 && x <= 7 && y >= 0 && y <= 7;
                int want = isInside ? x + 16 * y : GopVideoCodec.NONE;
                CHECKS.due("pixel(0, 0, " + x + ", " + y + ")", codec.pixel(0, 0, x, y), want);
                readable += codec.pixel(0, 0, x, y) != GopVideoCodec.NONE ? 1 : 0;
            }
        }
        CHECKS.due("pixels of a frame", readable, 64);
    }

    private static int appendAny(GopVideoCodec codec, int kind) {
        switch (kind) {
            case 0:
                return codec.appendGradient(1, 2, 3);
            case 1:
                return codec.appendTexture(4);
            default:
                return codec.appendMoved(0, 1, 1, 1);
        }
    }

    /** The three kinds by turns, however the group begins. */
    private static void indicesGrowFrom0() {
        for (int first = 0; first <= 1; first++) {
            GopVideoCodec codec = new GopVideoCodec(1, 0, 0);
            for (int k = 0; k < 8; k++) {
                CHECKS.due("append " + k, appendAny(codec, (first + k) % 3), k);
            }
        }
    }

    private static void upTo8Frames() {
        GopVideoCodec codec = new GopVideoCodec(1, 0, 0);
        for (int k = 0; k < 30; k++) {
            int want = k < 8 ? k : GopVideoCodec.NONE;
            CHECKS.due("append " + k, appendAny(codec, k % 3), want);
            CHECKS.due("n after append " + k, codec.status(GopVideoCodec.STATUS_FRAMES), Math.min(k + 1, 8));
        }
        CHECKS.due("MAX_FRAMES", GopVideoCodec.MAX_FRAMES, 8);
    }

    /** A group of the full length may come again and again: nothing runs over. */
    private static void fullGroupsOneAfterAnother() {
        GopVideoCodec codec = Stage.fresh();
        for (int group = 0; group < 20; group++) {
            GopVideoCodec other = Stage.fresh();
            for (int k = 0; k < 8; k++) {
                codec.appendTexture(8 * group + k);
                other.appendTexture(8 * group + k);
            }
            CHECKS.due("encode() of group " + group, codec.encode(), 8);
            other.encode();
            Checks.decodeAll(codec);
            Checks.decodeAll(other);
            CHECKS.sameAnswers("does group " + group + " answer as on a new object?",
                    Checks.allAnswers(codec), Checks.allAnswers(other));
            CHECKS.samePixels("group " + group, codec, GopVideoCodec.PLANE_OUTPUT, GopVideoCodec.PLANE_RECON, 6);
            codec.reset();
        }
    }

    /** Two objects with calls by turns answer as each would alone. */
    private static void objectsAreApart() {
        GopVideoCodec one = Stage.LOADING.make();
        GopVideoCodec other = Stage.PARTLY_DECODED.make();
        one.appendTexture(5);
        other.decodeNext();
        one.encode();
        other.decodeNext();
        one.decodeNext();
        GopVideoCodec alone = Stage.LOADING.make();
        alone.appendTexture(5);
        alone.encode();
        alone.decodeNext();
        CHECKS.sameAnswers("does one go on as it would alone?", Checks.future(one), Checks.future(alone));
        alone = Stage.PARTLY_DECODED.make();
        alone.decodeNext();
        alone.decodeNext();
        CHECKS.sameAnswers("does the other go on as it would alone?", Checks.future(other), Checks.future(alone));
    }

    private static void within(String call, int answer, int least, int greatest) {
        CHECKS.due(call + " answered " + answer + ", is it in " + least + ".." + greatest + "?",
                answer >= least && answer <= greatest, true);
    }

    private static void askFour(GopVideoCodec codec, int a, int b, int c, int d) {
        within("pixel", codec.pixel(a, b, c, d), GopVideoCodec.NONE, 255);
        int vector = codec.blockVector(a, b, c, d);
        within("blockVector", vector == GopVideoCodec.NO_VECTOR ? 0 : vector, -Stage.RANGE, Stage.RANGE);
        within("blockMode", codec.blockMode(a, b), GopVideoCodec.NONE, GopVideoCodec.MODE_BI);
        within("nonZero", codec.nonZero(a, b), GopVideoCodec.NONE, 16);
        within("frameType", codec.frameType(a), GopVideoCodec.NONE, GopVideoCodec.TYPE_B);
        within("codingOrder", codec.codingOrder(a), GopVideoCodec.NONE, 7);
        within("outputFrame", codec.outputFrame(a), GopVideoCodec.NONE, 7);
        within("status", codec.status(a), GopVideoCodec.NONE, 9);
    }

    private static void changeFour(Stage stage, int a, int b, int c, int d) {
        GopVideoCodec codec = stage.make();
        codec.setPixel(a, b, c, d);
        within("appendMoved", codec.appendMoved(a, b, c, d), GopVideoCodec.NONE, 7);
        within("appendGradient", codec.appendGradient(b, c, d), GopVideoCodec.NONE, 7);
        within("appendTexture", codec.appendTexture(d), GopVideoCodec.NONE, 7);
        within("encode", codec.encode(), GopVideoCodec.NONE, 8);
        within("decodeNext", codec.decodeNext(), GopVideoCodec.NONE, 7);
        within("decodeNext", codec.decodeNext(), GopVideoCodec.NONE, 7);
        for (int place = 0; place < 64; place += 9) {
            within("pixel", codec.pixel(GopVideoCodec.PLANE_INPUT, 3, place % 8, place / 8), GopVideoCodec.NONE, 255);
        }
    }

    private static void anyArgumentsInAnyState() {
        int edges = Checks.EDGES.length;
        for (Stage stage : Stage.values()) {
            GopVideoCodec codec = stage.make();
            for (int at = 0; at < edges * edges * edges * edges; at++) {
                int a = Checks.EDGES[at % edges];
                int b = Checks.EDGES[at / edges % edges];
                int c = Checks.EDGES[at / edges / edges % edges];
                int d = Checks.EDGES[at / edges / edges / edges];
                askFour(codec, a, b, c, d);
                // A step that shares no factor with the number of edges brings every value to every argument.
                if (at % 97 == 0) {
                    changeFour(stage, a, b, c, d);
                }
            }
        }
    }

    public static void main(String[] args) {
        CHECKS.sentence("a frame is 8x8 pixels; (x, y) has column x and row y, both 0..7", GeneralTest::aFrameIs8By8);
        CHECKS.sentence("the first appended frame has index 0, the next 1, and so on", GeneralTest::indicesGrowFrom0);
        CHECKS.sentence("up to MAX_FRAMES frames are appended", GeneralTest::upTo8Frames);
        CHECKS.sentence("the stream has room for a full group, every time", GeneralTest::fullGroupsOneAfterAnother);
        CHECKS.sentence("the stream is kept inside the object", GeneralTest::objectsAreApart);
        CHECKS.sentence("no call ever throws, for any arguments in any state (LANGUAGE.md, rule 7)",
                GeneralTest::anyArgumentsInAnyState);
        CHECKS.finish();
    }
}
