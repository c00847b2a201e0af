/** Promise 16. */
public final class OutputFrameTest {
    private static final Checks CHECKS = new Checks();

    private static void noneBeyond(String of, GopVideoCodec codec, int count) {
        for (int k = count; k <= 9; k++) {
            CHECKS.due("outputFrame(" + k + ") of " + of, codec.outputFrame(k), GopVideoCodec.NONE);
        }
        for (int k : new int[] {Integer.MIN_VALUE, -2, -1, Integer.MAX_VALUE}) {
            CHECKS.due("outputFrame(" + k + ") of " + of, codec.outputFrame(k), GopVideoCodec.NONE);
        }
    }

    private static void noneOutsideTheReleased() {
        for (Stage stage : Stage.values()) {
            noneBeyond(stage.name(), stage.make(), stage.outputCount);
            noneBeyond("reset " + stage, stage.makeAndReset(), 0);
        }
    }

    private static void kItself() {
        GopVideoCodec codec = Stage.CODED_FULL.make();
        // Coding order 0 4 1 2 3 7 5 6; the last call is refused.
        for (int count : new int[] {1, 1, 2, 3, 5, 5, 6, 8, 8}) {
            codec.decodeNext();
            for (int k = 0; k < count; k++) {
                CHECKS.due("outputFrame(" + k + ") with " + count + " released", codec.outputFrame(k), k);
            }
            noneBeyond(count + " released", codec, count);
        }
    }

    private static void changesNothing() {
        for (Stage stage : Stage.values()) {
            CHECKS.changesNothing("outputFrame of " + stage, codec -> {
                for (int k : Checks.EDGES) {
                    codec.outputFrame(k);
                }
            }, stage::make);
        }
    }

    public static void main(String[] args) {
        CHECKS.sentence("NONE when k is not in 0..(output count - 1)", OutputFrameTest::noneOutsideTheReleased);
        CHECKS.sentence("the frame released as number k, which is k itself", OutputFrameTest::kItself);
        CHECKS.sentence("it changes nothing", OutputFrameTest::changesNothing);
        CHECKS.finish();
    }
}
