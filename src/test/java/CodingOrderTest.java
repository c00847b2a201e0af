/** Promise 11, and the coding order of promise 7. */
public final class CodingOrderTest {
    private static final Checks CHECKS = new Checks();

    private static void order(int bFrames, String order) {
        GopVideoCodec codec = new GopVideoCodec(8, 0, bFrames);
        int n = order.length();
        for (int pos = 0; pos < n; pos++) {
            codec.appendTexture(pos);
            CHECKS.due("codingOrder(" + pos + ") before encode()", codec.codingOrder(pos), GopVideoCodec.NONE);
        }
        codec.encode();
        for (int round = 0; round < 2; round++) {
            int[] before = Checks.allAnswers(codec);
            for (int pos = 0; pos < n; pos++) {
                CHECKS.due("M = " + bFrames + ", n = " + n + ": codingOrder(" + pos + ")",
                        codec.codingOrder(pos), order.charAt(pos) - '0');
            }
            for (int pos : new int[] {Integer.MIN_VALUE, -1, n, n + 1, 8, 9, Integer.MAX_VALUE}) {
                CHECKS.due("n = " + n + ": codingOrder(" + pos + ")", codec.codingOrder(pos), GopVideoCodec.NONE);
            }
            CHECKS.unchanged("codingOrder", before, codec);
            Checks.decodeAll(codec);
        }
        codec.reset();
        CHECKS.due("codingOrder(0) after reset()", codec.codingOrder(0), GopVideoCodec.NONE);
    }

    public static void main(String[] args) {
        CHECKS.due("codingOrder(0) of a new object", new GopVideoCodec(1, 1, 1).codingOrder(0), GopVideoCodec.NONE);
        for (int bFrames = 0; bFrames <= 3; bFrames++) {
            order(bFrames, "0");
            order(bFrames, "01");
        }
        order(0, "012");
        order(0, "01234567");
        order(1, "021");
        order(1, "0213");
        order(1, "02143");
        order(1, "02143657");
        order(2, "021");
        order(2, "0312");
        order(2, "03124");
        order(2, "031254");
        order(2, "0312645");
        order(2, "03126457");
        order(3, "021");
        order(3, "0312");
        order(3, "04123");
        order(3, "041235");
        order(3, "0412365");
        order(3, "04123756");
        CHECKS.finish();
    }
}
