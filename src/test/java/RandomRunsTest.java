import java.util.function.IntConsumer;

/** All promises: long mixed runs of calls, judged by the reference, with every answer after every call. */
public final class RandomRunsTest {
    private static final Checks CHECKS = new Checks();
    // A fixed sequence, so that a failing run fails again.
    private static long state = 20261115L;

    private static int below(int bound) {
        state = state * 6364136223846793005L + 1442695040888963407L;
        return (int) ((state >>> 33) % bound);
    }

    private static int edgy(int least, int greatest) {
        if (below(8) == 0) {
            return Checks.EDGES[below(Checks.EDGES.length)];
        }
        return least + below(greatest - least + 1);
    }

    private static void callBoth(String run, GopVideoCodec codec, ReferenceCodec reference) {
        int a = edgy(0, 7);
        int b = edgy(-3, 7);
        int c = edgy(-3, 7);
        int d = edgy(-20, 255);
        switch (below(12)) {
            case 0 -> CHECKS.due(run + " appendGradient(" + d + ", " + b + ", " + c + ")",
                    codec.appendGradient(d, b, c), reference.appendGradient(d, b, c));
            case 1, 2 -> CHECKS.due(run + " appendTexture(" + d + ")",
                    codec.appendTexture(d), reference.appendTexture(d));
            case 3, 4, 5 -> CHECKS.due(run + " appendMoved(" + a + ", " + b + ", " + c + ", " + d / 20 + ")",
                    codec.appendMoved(a, b, c, d / 20), reference.appendMoved(a, b, c, d / 20));
            case 6, 7 -> CHECKS.due(run + " setPixel(" + a + ", " + b + ", " + c + ", " + d + ")",
                    codec.setPixel(a, b, c, d), reference.setPixel(a, b, c, d));
            case 8 -> {
                if (below(3) == 0) {
                    CHECKS.due(run + " encode()", codec.encode(), reference.encode());
                }
            }
            case 9, 10 -> CHECKS.due(run + " decodeNext()", codec.decodeNext(), reference.decodeNext());
            default -> {
                if (below(10) == 0) {
                    codec.reset();
                    reference.reset();
                }
            }
        }
    }

    private static void compareAll(String run, GopVideoCodec codec, ReferenceCodec reference) {
        for (int kind = -1; kind <= 7; kind++) {
            CHECKS.due(run + " status(" + kind + ")", codec.status(kind), reference.status(kind));
        }
        for (int frame = -1; frame <= 8; frame++) {
            String of = "(" + frame + ")";
            CHECKS.due(run + " frameType" + of, codec.frameType(frame), reference.frameType(frame));
            CHECKS.due(run + " codingOrder" + of, codec.codingOrder(frame), reference.codingOrder(frame));
            CHECKS.due(run + " outputFrame" + of, codec.outputFrame(frame), reference.outputFrame(frame));
            for (int block = -1; block <= 4; block++) {
                compareBlock(run, codec, reference, frame, block);
            }
            for (int place = 0; place < 3 * 64; place++) {
                int plane = place / 64;
                int x = place % 8;
                int y = place / 8 % 8;
                int want = reference.pixel(plane, frame, x, y);
                if (codec.pixel(plane, frame, x, y) != want) {
                    CHECKS.due(run + " pixel(" + plane + ", " + frame + ", " + x + ", " + y + ")",
                            codec.pixel(plane, frame, x, y), want);
                }
            }
        }
    }

    private static void compareBlock(String run, GopVideoCodec codec, ReferenceCodec reference, int frame, int block) {
        String of = "(" + frame + ", " + block;
        CHECKS.due(run + " blockMode" + of + ")", codec.blockMode(frame, block), reference.blockMode(frame, block));
        CHECKS.due(run + " nonZero" + of + ")", codec.nonZero(frame, block), reference.nonZero(frame, block));
        for (int list = -1; list <= 2; list++) {
            for (int comp = -1; comp <= 2; comp++) {
                CHECKS.due(run + " blockVector" + of + ", " + list + ", " + comp + ")",
                        codec.blockVector(frame, block, list, comp),
                        reference.blockVector(frame, block, list, comp));
            }
        }
    }

    private static void mixedRun(int number) {
        int quant = edgy(1, 64);
        int range = edgy(0, 2);
        int bFrames = edgy(0, 3);
        String run = "run " + number + " new(" + quant + ", " + range + ", " + bFrames + ")";
        GopVideoCodec codec = new GopVideoCodec(quant, range, bFrames);
        ReferenceCodec reference = new ReferenceCodec(quant, range, bFrames);
        for (int call = 0; call < 60; call++) {
            callBoth(run + " call " + call, codec, reference);
            if (call % 4 == 3) {
                compareAll(run + " after call " + call, codec, reference);
            }
        }
    }

    /** Groups of near-alike frames, where costs lie close together and modes and vectors vary. */
    private static void codedRun(int number) {
        int quant = 1 + below(64);
        int range = below(3);
        int bFrames = below(4);
        String run = "coded run " + number + " new(" + quant + ", " + range + ", " + bFrames + ")";
        GopVideoCodec codec = new GopVideoCodec(quant, range, bFrames);
        ReferenceCodec reference = new ReferenceCodec(quant, range, bFrames);
        int frames = 1 + below(8);
        int shades = 1 + below(3);
        for (int frame = 0; frame < frames; frame++) {
            codec.appendGradient(100, 0, 0);
            reference.appendGradient(100, 0, 0);
            for (int place = 0; place < 64; place++) {
                int value = below(2) == 0 ? 100 + below(shades) : below(256 / shades);
                codec.setPixel(frame, place % 8, place / 8, value);
                reference.setPixel(frame, place % 8, place / 8, value);
            }
        }
        CHECKS.due(run + " encode()", codec.encode(), reference.encode());
        compareAll(run, codec, reference);
        for (int frame = 0; frame <= frames; frame++) {
            CHECKS.due(run + " decodeNext()", codec.decodeNext(), reference.decodeNext());
        }
        compareAll(run + " decoded", codec, reference);
    }

    private static void repeat(IntConsumer run) {
        for (int number = 0; number < 200; number++) {
            run.accept(number);
        }
    }

    public static void main(String[] args) {
        CHECKS.sentence("all promises, in runs of mixed calls", () -> repeat(RandomRunsTest::mixedRun));
        CHECKS.sentence("all promises, in coded groups", () -> repeat(RandomRunsTest::codedRun));
        CHECKS.finish();
    }
}
