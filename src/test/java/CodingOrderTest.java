/** Promise 11, and "Coding order" of promise 7. */
public final class CodingOrderTest {
    private static final Checks CHECKS = new Checks();

    private static void order(int bFrames, String order) {
        int n = order.length();
        GopVideoCodec codec = new GopVideoCodec(8, 0, bFrames);
        for (int frame = 0; frame < n; frame++) {
            codec.appendTexture(frame);
        }
        codec.encode();
        for (int round = 0; round < 2; round++) {
            for (int pos = 0; pos < n; pos++) {
                CHECKS.due("M = " + bFrames + ", n = " + n + ": codingOrder(" + pos + ")",
                        codec.codingOrder(pos), order.charAt(pos) - '0');
            }
            Checks.decodeAll(codec);
        }
    }

    private static void position0HoldsFrame0() {
        for (int bFrames = 0; bFrames <= 3; bFrames++) {
            order(bFrames, "0");
        }
    }

    private static void eachAnchorThenItsBFrames() {
        order(1, "021");
        order(1, "02143");
        order(2, "0312");
        order(2, "0312645");
        order(3, "04123");
    }

    /** The last anchor closes a group that is shorter than M, or empty. */
    private static void theLastGroupIsShort() {
        order(1, "0213");
        order(1, "02143657");
        order(2, "021");
        order(2, "031254");
        order(2, "03126457");
        order(3, "021");
        order(3, "0312");
        order(3, "041235");
        order(3, "0412365");
        order(3, "04123756");
    }

    private static void withoutBFramesInDisplayOrder() {
        for (int bFrames = 0; bFrames <= 3; bFrames++) {
            order(bFrames, "01");
        }
        order(0, "012");
        order(0, "01234567");
    }

    public static void main(String[] args) {
        CodedAnswers answers = new CodedAnswers(CHECKS, "codingOrder", GopVideoCodec.NONE,
                (codec, pos, block) -> codec.codingOrder(pos));
        answers.frameSentences("pos");
        CHECKS.sentence("position 0 holds frame 0", CodingOrderTest::position0HoldsFrame0);
        CHECKS.sentence("every anchor a > 0, then every B frame before it", CodingOrderTest::eachAnchorThenItsBFrames);
        CHECKS.sentence("the same when the last group is short", CodingOrderTest::theLastGroupIsShort);
        CHECKS.sentence("the same without B frames", CodingOrderTest::withoutBFramesInDisplayOrder);
        CHECKS.sentence("example: with n = 5 and M = 2 the order is 0 3 1 2 4", () -> order(2, "03124"));
        CHECKS.finish();
    }
}
