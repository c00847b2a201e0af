/** Promise 11, and the coding order of promise 7. */
public final class CodingOrderTest {
    private static final Checks CHECKS = new Checks();
    private static final PerFrameAnswers ANSWERS = new PerFrameAnswers(CHECKS, "codingOrder", GopVideoCodec::codingOrder);

    private static void order(int bFrames, String order) {
        ANSWERS.check(bFrames, order.chars().map(digit -> digit - '0').toArray());
    }

    public static void main(String[] args) {
        for (int bFrames = 0; bFrames <= 3; bFrames++) {
            order(bFrames, "0");
            order(bFrames, "01");
        }
        order(0, "012");
        order(0, "01234567");
        order(1, "021");
        order(1, "0213");
        order(1, "02143");
        order(1, "02143657");
        order(2, "021");
        order(2, "0312");
        order(2, "03124");
        order(2, "031254");
        order(2, "0312645");
        order(2, "03126457");
        order(3, "021");
        order(3, "0312");
        order(3, "04123");
        order(3, "041235");
        order(3, "0412365");
        order(3, "04123756");
        CHECKS.finish();
    }
}
