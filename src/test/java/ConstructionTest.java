/** Promise 1. */
public final class ConstructionTest {
    private static final Checks CHECKS = new Checks();

    private static void settings(String after, GopVideoCodec codec, int qs, int r, int m) {
        CHECKS.due(after + " status(4)", codec.status(GopVideoCodec.STATUS_QUANT), qs);
        CHECKS.due(after + " status(5)", codec.status(GopVideoCodec.STATUS_RANGE), r);
        CHECKS.due(after + " status(6)", codec.status(GopVideoCodec.STATUS_BFRAMES), m);
    }

    private static void clamped(int quant, int range, int bFrames, int qs, int r, int m) {
        GopVideoCodec codec = new GopVideoCodec(quant, range, bFrames);
        settings("new(" + quant + ", " + range + ", " + bFrames + ")", codec, qs, r, m);
    }

    private static void everyIntIsAccepted() {
        for (int quant : Checks.EDGES) {
            for (int range : Checks.EDGES) {
                for (int bFrames : Checks.EDGES) {
                    int qs = Math.max(1, Math.min(64, quant));
                    int r = Math.max(0, Math.min(2, range));
                    int m = Math.max(0, Math.min(3, bFrames));
                    clamped(quant, range, bFrames, qs, r, m);
                }
            }
        }
    }

    private static void quantIsClamped() {
        int[] tooSmall = {0, -1, -64, Integer.MIN_VALUE};
        int[] tooLarge = {65, 128, 65537, Integer.MAX_VALUE};
        for (int quant : tooSmall) {
            clamped(quant, 1, 1, 1, 1, 1);
        }
        for (int quant = 1; quant <= 64; quant++) {
            clamped(quant, 1, 1, quant, 1, 1);
        }
        for (int quant : tooLarge) {
            clamped(quant, 1, 1, 64, 1, 1);
        }
    }

    private static void rangeIsClamped() {
        int[] tooSmall = {-1, -2, Integer.MIN_VALUE};
        int[] tooLarge = {3, 4, 65536, Integer.MAX_VALUE};
        for (int range : tooSmall) {
            clamped(7, range, 1, 7, 0, 1);
        }
        for (int range = 0; range <= 2; range++) {
            clamped(7, range, 1, 7, range, 1);
        }
        for (int range : tooLarge) {
            clamped(7, range, 1, 7, 2, 1);
        }
    }

    private static void bFramesIsClamped() {
        int[] tooSmall = {-1, -3, Integer.MIN_VALUE};
        int[] tooLarge = {4, 5, 65536, Integer.MAX_VALUE};
        for (int bFrames : tooSmall) {
            clamped(7, 1, bFrames, 7, 1, 0);
        }
        for (int bFrames = 0; bFrames <= 3; bFrames++) {
            clamped(7, 1, bFrames, 7, 1, bFrames);
        }
        for (int bFrames : tooLarge) {
            clamped(7, 1, bFrames, 7, 1, 3);
        }
    }

    private static void examples() {
        clamped(0, 1, 1, 1, 1, 1);
        clamped(-17, 1, 1, 1, 1, 1);
        clamped(1000, 1, 1, 64, 1, 1);
        clamped(9, -5, 1, 9, 0, 1);
        clamped(9, 1, Integer.MAX_VALUE, 9, 1, 3);
    }

    private static int[] lifeWith(int quant, int range, int bFrames) {
        GopVideoCodec codec = new GopVideoCodec(quant, range, bFrames);
        for (int frame = 0; frame < 6; frame++) {
            codec.appendTexture(frame % 2);
            codec.setPixel(frame, frame, frame, 0);
        }
        return Checks.future(codec);
    }

    /** The status could be clamped and the work be done with the raw number. */
    private static void theClampedSettingsAreAtWork() {
        int[][] raw = {{-9, 1, 1}, {99, 1, 1}, {9, -9, 1}, {9, 9, 1}, {9, 1, -9}, {9, 1, 9}};
        int[][] limits = {{1, 1, 1}, {64, 1, 1}, {9, 0, 1}, {9, 2, 1}, {9, 1, 0}, {9, 1, 3}};
        for (int k = 0; k < raw.length; k++) {
            String call = "new(" + raw[k][0] + ", " + raw[k][1] + ", " + raw[k][2] + ")";
            CHECKS.sameAnswers(call + ": does it code as with the limit?",
                    lifeWith(raw[k][0], raw[k][1], raw[k][2]), lifeWith(limits[k][0], limits[k][1], limits[k][2]));
        }
    }

    private static void startsEmpty() {
        GopVideoCodec codec = new GopVideoCodec(5, 1, 1);
        CHECKS.due("new: phase", codec.status(GopVideoCodec.STATUS_PHASE), GopVideoCodec.PHASE_LOADING);
        CHECKS.due("new: n", codec.status(GopVideoCodec.STATUS_FRAMES), 0);
        CHECKS.due("new: decoded count", codec.status(GopVideoCodec.STATUS_DECODED), 0);
        CHECKS.due("new: output count", codec.status(GopVideoCodec.STATUS_OUTPUT), 0);
    }

    private static void settingsNeverChange(int qs, int r, int m) {
        GopVideoCodec codec = new GopVideoCodec(qs, r, m);
        for (int round = 0; round < 2; round++) {
            for (int k = 0; k < 9; k++) {
                codec.appendTexture(k);
                settings("after appendTexture", codec, qs, r, m);
                codec.appendGradient(k, 1, 1);
                settings("after appendGradient", codec, qs, r, m);
                codec.appendMoved(k, 1, 1, 1);
                settings("after appendMoved", codec, qs, r, m);
                codec.setPixel(k, k, k, k);
                settings("after setPixel", codec, qs, r, m);
            }
            codec.encode();
            settings("after encode()", codec, qs, r, m);
            for (int k = 0; k < 9; k++) {
                codec.decodeNext();
                settings("after decodeNext()", codec, qs, r, m);
            }
            Checks.allAnswers(codec);
            settings("after every question", codec, qs, r, m);
            codec.reset();
            settings("after reset()", codec, qs, r, m);
        }
    }

    private static void settingsNeverChange() {
        settingsNeverChange(1, 0, 0);
        settingsNeverChange(17, 1, 2);
        settingsNeverChange(64, 2, 3);
        GopVideoCodec one = new GopVideoCodec(5, 1, 1);
        GopVideoCodec other = new GopVideoCodec(6, 2, 2);
        settings("one object beside another", one, 5, 1, 1);
        settings("another object", other, 6, 2, 2);
    }

    public static void main(String[] args) {
        CHECKS.sentence("accepts every int for each argument", ConstructionTest::everyIntIsAccepted);
        CHECKS.sentence("quant into 1..64 (this is Qs)", ConstructionTest::quantIsClamped);
        CHECKS.sentence("range into 0..2 (R)", ConstructionTest::rangeIsClamped);
        CHECKS.sentence("bFrames into 0..3 (M)", ConstructionTest::bFramesIsClamped);
        CHECKS.sentence("for example quant = 0 or any negative value gives Qs = 1 ...", ConstructionTest::examples);
        CHECKS.sentence("Qs, R and M are the settings after clamping", ConstructionTest::theClampedSettingsAreAtWork);
        CHECKS.sentence("starts in PHASE_LOADING with n = 0 and counts of 0", ConstructionTest::startsEmpty);
        CHECKS.sentence("the settings never change afterwards, through any call",
                ConstructionTest::settingsNeverChange);
        CHECKS.finish();
    }
}
