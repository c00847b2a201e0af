/** Promise 6. */
public final class SetPixelTest {
    private static final Checks CHECKS = new Checks();

    private static GopVideoCodec withFrames() {
        GopVideoCodec codec = new GopVideoCodec(1, 1, 1);
        codec.appendGradient(100, 0, 0);
        codec.appendGradient(101, 0, 0);
        codec.appendGradient(102, 0, 0);
        return codec;
    }

    private static void refused(Stage stage, int frame, int x, int y, int value) {
        String call = "setPixel(" + frame + ", " + x + ", " + y + ", " + value + ") of " + stage;
        CHECKS.refused(call, 0, c -> c.setPixel(frame, x, y, value) ? 1 : 0, stage::make);
    }

    private static void taken(int frame, int x, int y, int value) {
        GopVideoCodec codec = withFrames();
        String call = "setPixel(" + frame + ", " + x + ", " + y + ", " + value + ")";
        CHECKS.due(call, codec.setPixel(frame, x, y, value), true);
        CHECKS.due(call + " pixel(0, " + frame + ", " + x + ", " + y + ")", codec.pixel(0, frame, x, y), value);
    }

    private static void refusedUnlessLoading() {
        for (Stage stage : Stage.values()) {
            if (stage.isCoded) {
                refused(stage, 0, 0, 0, 9);
                refused(stage, stage.frames - 1, 7, 7, 255);
            }
        }
    }

    private static void frameMustBeThere() {
        for (int frame : new int[] {Integer.MIN_VALUE, -8, -1, 3, 4, 7, 8, 64, Integer.MAX_VALUE}) {
            refused(Stage.LOADING, frame, 1, 1, 9);
        }
        for (int frame : new int[] {-1, 8, Integer.MAX_VALUE}) {
            refused(Stage.FULL, frame, 1, 1, 9);
        }
        for (int frame : new int[] {-1, 0, 1, 7, 8}) {
            refused(Stage.NEW, frame, 1, 1, 9);
        }
        for (int frame = 0; frame < 8; frame++) {
            int asked = frame;
            CHECKS.refused("setPixel(" + frame + ", 1, 1, 9) after reset()", 0,
                    c -> c.setPixel(asked, 1, 1, 9) ? 1 : 0, Stage.FULL::makeAndReset);
        }
        taken(0, 1, 1, 9);
        taken(2, 1, 1, 9);
    }

    private static void columnMustBeThere() {
        for (int x : new int[] {Integer.MIN_VALUE, -64, -8, -1, 8, 9, 64, Integer.MAX_VALUE}) {
            refused(Stage.LOADING, 1, x, 1, 9);
        }
        taken(1, 0, 1, 9);
        taken(1, 7, 1, 9);
    }

    private static void rowMustBeThere() {
        for (int y : new int[] {Integer.MIN_VALUE, -64, -8, -1, 8, 9, 64, Integer.MAX_VALUE}) {
            refused(Stage.LOADING, 1, 1, y, 9);
        }
        taken(1, 1, 0, 9);
        taken(1, 1, 7, 9);
    }

    private static void valueMustBeAPixel() {
        for (int value : new int[] {Integer.MIN_VALUE, -256, -1, 256, 257, 65535, Integer.MAX_VALUE}) {
            refused(Stage.LOADING, 1, 1, 1, value);
        }
        taken(1, 1, 1, 0);
        taken(1, 1, 1, 1);
        taken(1, 1, 1, 254);
        taken(1, 1, 1, 255);
    }

    private static void everyPixelCanBeSet() {
        GopVideoCodec codec = withFrames();
        int[] rows = new int[64];
        for (int place = 0; place < 64; place++) {
            rows[place] = 4 * place;
            CHECKS.due("setPixel at place " + place, codec.setPixel(1, place % 8, place / 8, 4 * place), true);
            CHECKS.due("setPixel again at place " + place, codec.setPixel(1, place % 8, place / 8, 4 * place), true);
        }
        CHECKS.pixels("all set", codec, GopVideoCodec.PLANE_INPUT, 1, rows);
    }

    private static void noOtherChanges(int frame, int x, int y, int value) {
        GopVideoCodec codec = withFrames();
        String call = "setPixel(" + frame + ", " + x + ", " + y + ", " + value + ")";
        codec.setPixel(frame, x, y, value);
        for (int other = 0; other < 3; other++) {
            int[] rows = Checks.flat(100 + other);
            if (other == frame) {
                rows[8 * y + x] = value;
            }
            CHECKS.pixels(call, codec, GopVideoCodec.PLANE_INPUT, other, rows);
        }
    }

    private static void noOtherPixelChanges() {
        noOtherChanges(0, 0, 0, 0);
        noOtherChanges(0, 7, 7, 255);
        noOtherChanges(1, 7, 0, 1);
        noOtherChanges(1, 0, 7, 254);
        noOtherChanges(2, 3, 5, 60);
        noOtherChanges(2, 7, 7, 102);
    }

    private static void noCountChanges() {
        GopVideoCodec codec = withFrames();
        int[] status = {3, GopVideoCodec.PHASE_LOADING, 0, 0, 1, 1, 1};
        for (int frame = 0; frame < 3; frame++) {
            codec.setPixel(frame, frame, frame, 5);
            for (int kind = 0; kind <= 6; kind++) {
                CHECKS.due("setPixel: status(" + kind + ")", codec.status(kind), status[kind]);
            }
        }
        CHECKS.due("setPixel: pixel(0, 3, 0, 0)", codec.pixel(0, 3, 0, 0), GopVideoCodec.NONE);
    }

    public static void main(String[] args) {
        CHECKS.sentence("refused when the phase is not PHASE_LOADING", SetPixelTest::refusedUnlessLoading);
        CHECKS.sentence("refused when frame is not in 0..n-1", SetPixelTest::frameMustBeThere);
        CHECKS.sentence("refused when x is not in 0..7", SetPixelTest::columnMustBeThere);
        CHECKS.sentence("refused when y is not in 0..7", SetPixelTest::rowMustBeThere);
        CHECKS.sentence("refused when value is not in 0..255", SetPixelTest::valueMustBeAPixel);
        CHECKS.sentence("otherwise it sets input pixel (x, y) and answers true", SetPixelTest::everyPixelCanBeSet);
        CHECKS.sentence("no other pixel, no other frame changes", SetPixelTest::noOtherPixelChanges);
        CHECKS.sentence("neither n nor any count changes", SetPixelTest::noCountChanges);
        CHECKS.finish();
    }
}
