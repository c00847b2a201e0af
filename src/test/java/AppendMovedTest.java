/** Promise 5. */
public final class AppendMovedTest {
    private static final Checks CHECKS = new Checks();

    private static GopVideoCodec withSource() {
        GopVideoCodec codec = new GopVideoCodec(1, 0, 0);
        codec.appendGradient(10, 1, 20);
        return codec;
    }

    /** Each pixel (x, y) is 10 + columns[x] + 20 * rows[y] + delta. */
    private static void moved(int dx, int dy, int delta, int[] columns, int[] rows) {
        GopVideoCodec codec = withSource();
        String call = "appendMoved(0, " + dx + ", " + dy + ", " + delta + ")";
        CHECKS.due(call, codec.appendMoved(0, dx, dy, delta), 1);
        for (int place = 0; place < 64; place++) {
            int x = place % 8;
            int y = place / 8;
            int want = 10 + columns[x] + 20 * rows[y] + delta;
            CHECKS.due(call + " pixel(0, 1, " + x + ", " + y + ")", codec.pixel(0, 1, x, y), want);
            CHECKS.due(call + " pixel(0, 0, " + x + ", " + y + ")", codec.pixel(0, 0, x, y), 10 + x + 20 * y);
        }
    }

    private static void moves() {
        int[] still = {0, 1, 2, 3, 4, 5, 6, 7};
        int[] first = {0, 0, 0, 0, 0, 0, 0, 0};
        int[] last = {7, 7, 7, 7, 7, 7, 7, 7};
        moved(0, 0, 0, still, still);
        moved(1, 0, 0, new int[] {0, 0, 1, 2, 3, 4, 5, 6}, still);
        moved(0, 1, 0, still, new int[] {0, 0, 1, 2, 3, 4, 5, 6});
        moved(-2, 3, 5, new int[] {2, 3, 4, 5, 6, 7, 7, 7}, new int[] {0, 0, 0, 0, 1, 2, 3, 4});
        moved(7, -7, -10, first, last);
        moved(6, -6, 98, new int[] {0, 0, 0, 0, 0, 0, 0, 1}, new int[] {6, 7, 7, 7, 7, 7, 7, 7});
        moved(100, -100, 0, first, last);
        moved(Integer.MAX_VALUE, -1000000000, 0, first, last);
        // The difference wraps: 0 - (MIN + 1) is the greatest int, 1 - (MIN + 1) the least.
        moved(Integer.MIN_VALUE, Integer.MIN_VALUE, 0, first, first);
        moved(Integer.MIN_VALUE + 1, Integer.MIN_VALUE + 3, 0, new int[] {7, 0, 0, 0, 0, 0, 0, 0},
                new int[] {7, 7, 7, 0, 0, 0, 0, 0});
    }

    /** Pixels of 0 and 255 in the source, and the value that each becomes. */
    private static void brightened(int delta, int black, int white) {
        GopVideoCodec codec = new GopVideoCodec(1, 0, 0);
        codec.appendGradient(0, 0, 0);
        codec.setPixel(0, 4, 5, 255);
        String call = "appendMoved(0, 0, 0, " + delta + ")";
        CHECKS.due(call, codec.appendMoved(0, 0, 0, delta), 1);
        CHECKS.due(call + " pixel(0, 1, 0, 0)", codec.pixel(0, 1, 0, 0), black);
        CHECKS.due(call + " pixel(0, 1, 4, 5)", codec.pixel(0, 1, 4, 5), white);
    }

    private static void deltas() {
        brightened(0, 0, 255);
        brightened(1, 1, 255);
        brightened(-1, 0, 254);
        brightened(255, 255, 255);
        brightened(-255, 0, 0);
        brightened(-300, 0, 0);
        // The sum wraps before it is clamped.
        brightened(Integer.MAX_VALUE, 255, 0);
        brightened(Integer.MIN_VALUE, 0, 0);
    }

    private static void wrongSources() {
        GopVideoCodec empty = new GopVideoCodec(1, 0, 0);
        GopVideoCodec one = withSource();
        GopVideoCodec three = withSource();
        three.appendTexture(3);
        three.appendTexture(4);
        refused(empty, 0);
        refused(one, 1);
        refused(three, 3);
        for (int src : new int[] {Integer.MIN_VALUE, -1, 4, 7, 8, Integer.MAX_VALUE}) {
            refused(empty, src);
            refused(one, src);
            refused(three, src);
        }
    }

    private static void refused(GopVideoCodec codec, int src) {
        int[] before = Checks.allAnswers(codec);
        String call = "appendMoved(" + src + ", 1, 1, 1) with n = " + codec.status(0);
        CHECKS.due(call, codec.appendMoved(src, 1, 1, 1), GopVideoCodec.NONE);
        CHECKS.unchanged(call, before, codec);
    }

    private static void sourceAsItIsAtTheCall() {
        GopVideoCodec codec = withSource();
        codec.setPixel(0, 2, 2, 200);
        codec.appendMoved(0, 1, 0, 0);
        codec.setPixel(0, 2, 2, 100);
        CHECKS.due("an edit before the call: pixel(0, 1, 3, 2)", codec.pixel(0, 1, 3, 2), 200);
        codec.setPixel(1, 0, 0, 77);
        CHECKS.due("an edit of the copy: pixel(0, 0, 0, 0)", codec.pixel(0, 0, 0, 0), 10);
        CHECKS.due("appendMoved(1, 0, 0, 1)", codec.appendMoved(1, 0, 0, 1), 2);
        CHECKS.due("a copy of a copy: pixel(0, 2, 0, 0)", codec.pixel(0, 2, 0, 0), 78);
        CHECKS.due("a copy of a copy: pixel(0, 2, 3, 2)", codec.pixel(0, 2, 3, 2), 201);
    }

    public static void main(String[] args) {
        moves();
        deltas();
        wrongSources();
        sourceAsItIsAtTheCall();
        AppendRefusals.check(CHECKS, "appendMoved(0, 1, -2, 3)", c -> c.appendMoved(0, 1, -2, 3));
        CHECKS.finish();
    }
}
