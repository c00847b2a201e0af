import java.util.function.Supplier;

/** Promise 5. */
public final class AppendMovedTest {
    private static final Checks CHECKS = new Checks();
    private static final int[] STILL = {0, 1, 2, 3, 4, 5, 6, 7};
    private static final int[] FIRST = {0, 0, 0, 0, 0, 0, 0, 0};
    private static final int[] LAST = {7, 7, 7, 7, 7, 7, 7, 7};

    private static GopVideoCodec withSource() {
        GopVideoCodec codec = new GopVideoCodec(1, 0, 0);
        codec.appendGradient(10, 1, 20);
        return codec;
    }

    private static void sourceMustBeBelow(int n, Supplier<GopVideoCodec> maker) {
        for (int src : new int[] {Integer.MIN_VALUE, -8, -1, n, n + 1, 8, 9, Integer.MAX_VALUE}) {
            CHECKS.refused("appendMoved(" + src + ", 1, 1, 1) with n = " + n, GopVideoCodec.NONE,
                    c -> c.appendMoved(src, 1, 1, 1), maker);
        }
        GopVideoCodec codec = maker.get();
        for (int src = 0; src < n; src++) {
            CHECKS.due("appendMoved(" + src + ", 0, 0, 0)", codec.appendMoved(src, 0, 0, 0), n + src);
            CHECKS.pixels("appendMoved(" + src + ", 0, 0, 0)", codec, GopVideoCodec.PLANE_INPUT, n + src,
                    Checks.picture(codec, GopVideoCodec.PLANE_INPUT, src));
        }
    }

    private static void sourceMustBeThere() {
        sourceMustBeBelow(1, AppendMovedTest::withSource);
        sourceMustBeBelow(3, Stage.LOADING::make);
        // Seven frames: the last src there is, and the first there isn't.
        GopVideoCodec seven = withSource();
        for (int k = 1; k < 7; k++) {
            seven.appendTexture(k);
        }
        CHECKS.due("appendMoved(7, 0, 0, 0) with n = 7", seven.appendMoved(7, 0, 0, 0), GopVideoCodec.NONE);
        CHECKS.due("appendMoved(6, 0, 0, 0) with n = 7", seven.appendMoved(6, 0, 0, 0), 7);
    }

    private static void alwaysRefusedWithoutFrames() {
        for (int src : Checks.EDGES) {
            CHECKS.refused("appendMoved(" + src + ", 0, 0, 0) of a new object", GopVideoCodec.NONE,
                    c -> c.appendMoved(src, 0, 0, 0), Stage.NEW::make);
            CHECKS.refused("appendMoved(" + src + ", 0, 0, 0) after reset()", GopVideoCodec.NONE,
                    c -> c.appendMoved(src, 0, 0, 0), Stage.FULL::makeAndReset);
        }
    }

    /** Each pixel (x, y) is 10 + columns[x] + 20 * rows[y] + delta. */
    private static void moved(int dx, int dy, int delta, int[] columns, int[] rows) {
        GopVideoCodec codec = withSource();
        String call = "appendMoved(0, " + dx + ", " + dy + ", " + delta + ")";
        CHECKS.due(call, codec.appendMoved(0, dx, dy, delta), 1);
        int[] want = new int[64];
        for (int place = 0; place < 64; place++) {
            want[place] = 10 + columns[place % 8] + 20 * rows[place / 8] + delta;
        }
        CHECKS.pixels(call, codec, GopVideoCodec.PLANE_INPUT, 1, want);
    }

    private static void everyPixel() {
        moved(0, 0, 0, STILL, STILL);
        moved(1, 0, 0, new int[] {0, 0, 1, 2, 3, 4, 5, 6}, STILL);
        moved(0, 1, 0, STILL, new int[] {0, 0, 1, 2, 3, 4, 5, 6});
        moved(-2, 3, 5, new int[] {2, 3, 4, 5, 6, 7, 7, 7}, new int[] {0, 0, 0, 0, 1, 2, 3, 4});
    }

    private static void placesAreClamped() {
        moved(6, -6, 98, new int[] {0, 0, 0, 0, 0, 0, 0, 1}, new int[] {6, 7, 7, 7, 7, 7, 7, 7});
        moved(-6, 6, 0, new int[] {6, 7, 7, 7, 7, 7, 7, 7}, new int[] {0, 0, 0, 0, 0, 0, 0, 1});
        moved(7, -7, -10, FIRST, LAST);
        moved(-7, 7, 0, LAST, FIRST);
        moved(8, -8, 0, FIRST, LAST);
        moved(100, -100, 0, FIRST, LAST);
        moved(-1000000000, 1000000000, 0, LAST, FIRST);
        moved(Integer.MAX_VALUE, Integer.MAX_VALUE, 0, FIRST, FIRST);
    }

    private static void differencesWrap() {
        // k - MIN is MIN + k for every k in 0..7.
        moved(Integer.MIN_VALUE, 0, 0, FIRST, STILL);
        moved(0, Integer.MIN_VALUE, 0, STILL, FIRST);
        // 0 - (MIN + 1) is the greatest int, 1 - (MIN + 1) the least.
        moved(Integer.MIN_VALUE + 1, 0, 0, new int[] {7, 0, 0, 0, 0, 0, 0, 0}, STILL);
        moved(0, Integer.MIN_VALUE + 3, 0, STILL, new int[] {7, 7, 7, 0, 0, 0, 0, 0});
        moved(Integer.MIN_VALUE + 7, Integer.MIN_VALUE + 8, 0, new int[] {7, 7, 7, 7, 7, 7, 7, 0}, LAST);
    }

    /** Pixels of 0 and 255 in the source, and the value that each becomes. */
    private static void brightened(int delta, int black, int white) {
        GopVideoCodec codec = new GopVideoCodec(1, 0, 0);
        codec.appendGradient(0, 0, 0);
        codec.setPixel(0, 4, 5, 255);
        String call = "appendMoved(0, 0, 0, " + delta + ")";
        CHECKS.due(call, codec.appendMoved(0, 0, 0, delta), 1);
        CHECKS.due(call + " pixel(0, 1, 0, 0)", codec.pixel(0, 1, 0, 0), black);
        CHECKS.due(call + " pixel(0, 1, 4, 5)", codec.pixel(0, 1, 4, 5), white);
    }

    private static void valuesAreClamped() {
        brightened(0, 0, 255);
        brightened(1, 1, 255);
        brightened(-1, 0, 254);
        brightened(254, 254, 255);
        brightened(255, 255, 255);
        brightened(256, 255, 255);
        brightened(-255, 0, 0);
        brightened(-256, 0, 0);
        brightened(Integer.MIN_VALUE, 0, 0);
    }

    private static void theSumWraps() {
        brightened(Integer.MAX_VALUE, 255, 0);
        brightened(Integer.MAX_VALUE - 254, 255, 0);
        brightened(Integer.MAX_VALUE - 255, 255, 255);
    }

    private static void sourceAsItIsAtTheCall() {
        GopVideoCodec codec = withSource();
        codec.setPixel(0, 2, 2, 200);
        codec.appendMoved(0, 1, 0, 0);
        CHECKS.due("an edit before the call: pixel(0, 1, 3, 2)", codec.pixel(0, 1, 3, 2), 200);
        CHECKS.due("appendMoved(1, 0, 0, 1)", codec.appendMoved(1, 0, 0, 1), 2);
        CHECKS.due("a copy of a copy: pixel(0, 2, 3, 2)", codec.pixel(0, 2, 3, 2), 201);
    }

    private static void laterEditsDoNotMatter() {
        GopVideoCodec codec = withSource();
        codec.appendMoved(0, 0, 0, 0);
        int[] copy = Checks.picture(codec, GopVideoCodec.PLANE_INPUT, 1);
        for (int place = 0; place < 64; place++) {
            codec.setPixel(0, place % 8, place / 8, 255 - place);
        }
        CHECKS.pixels("after edits of src", codec, GopVideoCodec.PLANE_INPUT, 1, copy);
        codec.setPixel(1, 0, 0, 77);
        CHECKS.due("an edit of the copy leaves src: pixel(0, 0, 0, 0)", codec.pixel(0, 0, 0, 0), 255);
    }

    public static void main(String[] args) {
        AppendAnswers answers = new AppendAnswers(CHECKS, "appendMoved(0, 1, -2, 3)", c -> c.appendMoved(0, 1, -2, 3));
        answers.sentences();
        CHECKS.sentence("refused when src is not in 0..n-1", AppendMovedTest::sourceMustBeThere);
        CHECKS.sentence("in particular it is always refused when n = 0", AppendMovedTest::alwaysRefusedWithoutFrames);
        CHECKS.sentence("(x, y) is c255(S(cl(x - dx), cl(y - dy)) + delta)", AppendMovedTest::everyPixel);
        CHECKS.sentence("cl: below 0 gives 0, above 7 gives 7", AppendMovedTest::placesAreClamped);
        CHECKS.sentence("the differences are computed with wrap-around", AppendMovedTest::differencesWrap);
        CHECKS.sentence("c255: below 0 gives 0, above 255 gives 255", AppendMovedTest::valuesAreClamped);
        CHECKS.sentence("the sum with delta is computed with wrap-around", AppendMovedTest::theSumWraps);
        CHECKS.sentence("S is input frame src as it is at this call", AppendMovedTest::sourceAsItIsAtTheCall);
        CHECKS.sentence("later edits of frame src do not affect the new frame",
                AppendMovedTest::laterEditsDoNotMatter);
        CHECKS.finish();
    }
}
