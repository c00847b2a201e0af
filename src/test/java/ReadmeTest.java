/** The example of README.md, so that it stays true: the answers told there, in its order. */
public final class ReadmeTest {
    private static final Checks CHECKS = new Checks();

    private static void example() {
        GopVideoCodec codec = new GopVideoCodec(8, 2, 2);
        CHECKS.due("appendTexture(7)", codec.appendTexture(7), 0);
        CHECKS.due("appendMoved(0, 1, 0, 0)", codec.appendMoved(0, 1, 0, 0), 1);
        CHECKS.due("appendMoved(0, 2, 1, 5)", codec.appendMoved(0, 2, 1, 5), 2);
        CHECKS.due("setPixel(1, 3, 3, 255)", codec.setPixel(1, 3, 3, 255), true);
        CHECKS.due("encode()", codec.encode(), 3);
        CHECKS.due("frameType(1)", codec.frameType(1), GopVideoCodec.TYPE_B);
        CHECKS.due("blockVector(2, 0, 0, 0)", codec.blockVector(2, 0, 0, 0), -2);
        int[] decoded = {0, 2, 1, GopVideoCodec.NONE};
        int[] released = {1, 1, 3, 3};
        for (int call = 0; call < 4; call++) {
            CHECKS.due("decodeNext()", codec.decodeNext(), decoded[call]);
            CHECKS.due("output count", codec.status(GopVideoCodec.STATUS_OUTPUT), released[call]);
        }
        CHECKS.due("input pixel", codec.pixel(GopVideoCodec.PLANE_INPUT, 1, 3, 3), 255);
        CHECKS.due("output pixel", codec.pixel(GopVideoCodec.PLANE_OUTPUT, 1, 3, 3), 254);
        codec.reset();
        CHECKS.due("n after reset()", codec.status(GopVideoCodec.STATUS_FRAMES), 0);
        CHECKS.due("Qs after reset()", codec.status(GopVideoCodec.STATUS_QUANT), 8);
    }

    public static void main(String[] args) {
        CHECKS.sentence("the example of README.md", ReadmeTest::example);
        CHECKS.finish();
    }
}
