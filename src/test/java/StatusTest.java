/** Promise 9. */
public final class StatusTest {
    private static final Checks CHECKS = new Checks();

    private static int[] wanted(Stage stage) {
        int phase = stage.isCoded ? GopVideoCodec.PHASE_CODED : GopVideoCodec.PHASE_LOADING;
        return new int[] {stage.frames, phase, stage.decodedCount, stage.outputCount,
            Stage.QUANT, Stage.RANGE, Stage.B_FRAMES};
    }

    private static void kindInEveryStage(int kind) {
        for (Stage stage : Stage.values()) {
            CHECKS.due("status(" + kind + ") of " + stage, stage.make().status(kind), wanted(stage)[kind]);
            int afterReset = kind <= GopVideoCodec.STATUS_OUTPUT ? 0 : wanted(stage)[kind];
            CHECKS.due("status(" + kind + ") after reset() of " + stage, stage.makeAndReset().status(kind), afterReset);
        }
    }

    private static void anyOtherKindIsNone() {
        for (Stage stage : Stage.values()) {
            GopVideoCodec codec = stage.make();
            for (int kind : new int[] {Integer.MIN_VALUE, -7, -2, -1, 7, 8, 64, 255, Integer.MAX_VALUE}) {
                CHECKS.due("status(" + kind + ") of " + stage, codec.status(kind), GopVideoCodec.NONE);
            }
        }
    }

    private static void changesNothing() {
        for (Stage stage : Stage.values()) {
            CHECKS.changesNothing("status of " + stage, codec -> {
                for (int kind = -2; kind <= 9; kind++) {
                    codec.status(kind);
                }
                for (int kind : Checks.EDGES) {
                    codec.status(kind);
                }
            }, stage::make);
        }
    }

    public static void main(String[] args) {
        CHECKS.sentence("STATUS_FRAMES: n", () -> kindInEveryStage(GopVideoCodec.STATUS_FRAMES));
        CHECKS.sentence("STATUS_PHASE: the phase", () -> kindInEveryStage(GopVideoCodec.STATUS_PHASE));
        CHECKS.sentence("STATUS_DECODED: the decoded count", () -> kindInEveryStage(GopVideoCodec.STATUS_DECODED));
        CHECKS.sentence("STATUS_OUTPUT: the output count", () -> kindInEveryStage(GopVideoCodec.STATUS_OUTPUT));
        CHECKS.sentence("STATUS_QUANT: Qs", () -> kindInEveryStage(GopVideoCodec.STATUS_QUANT));
        CHECKS.sentence("STATUS_RANGE: R", () -> kindInEveryStage(GopVideoCodec.STATUS_RANGE));
        CHECKS.sentence("STATUS_BFRAMES: M", () -> kindInEveryStage(GopVideoCodec.STATUS_BFRAMES));
        CHECKS.sentence("any other kind: NONE", StatusTest::anyOtherKindIsNone);
        CHECKS.sentence("it changes nothing", StatusTest::changesNothing);
        CHECKS.finish();
    }
}
