/** Promise 2. */
public final class ResetTest {
    private static final Checks CHECKS = new Checks();

    private interface AfterReset {
        void look(String after, GopVideoCodec codec);
    }

    private static void inEveryStage(AfterReset check) {
        for (Stage stage : Stage.values()) {
            GopVideoCodec codec = stage.makeAndReset();
            check.look("after reset() of " + stage, codec);
        }
    }

    private static void worksInEveryPhase() {
        int[] asNew = Checks.allAnswers(Stage.fresh());
        inEveryStage((after, codec) -> {
            CHECKS.sameAnswers(after + ": are all answers as of a new object?", Checks.allAnswers(codec), asNew);
            codec.reset();
            CHECKS.sameAnswers(after + " twice: are all answers as of a new object?", Checks.allAnswers(codec), asNew);
        });
    }

    private static void startsAgain() {
        inEveryStage((after, codec) -> {
            CHECKS.due(after + ": n", codec.status(GopVideoCodec.STATUS_FRAMES), 0);
            CHECKS.due(after + ": phase", codec.status(GopVideoCodec.STATUS_PHASE), GopVideoCodec.PHASE_LOADING);
            CHECKS.due(after + ": decoded count", codec.status(GopVideoCodec.STATUS_DECODED), 0);
            CHECKS.due(after + ": output count", codec.status(GopVideoCodec.STATUS_OUTPUT), 0);
        });
    }

    private static void planeIsGone(int plane) {
        inEveryStage((after, codec) -> {
            for (int frame = 0; frame < 8; frame++) {
                CHECKS.pixels(after, codec, plane, frame, Checks.flat(GopVideoCodec.NONE));
            }
        });
    }

    private static void inputFramesAreGone() {
        planeIsGone(GopVideoCodec.PLANE_INPUT);
        inEveryStage((after, codec) -> {
            CHECKS.due(after + ": setPixel(0, 0, 0, 0)", codec.setPixel(0, 0, 0, 0), false);
            CHECKS.due(after + ": appendMoved(0, 0, 0, 0)", codec.appendMoved(0, 0, 0, 0), GopVideoCodec.NONE);
            CHECKS.due(after + ": encode()", codec.encode(), GopVideoCodec.NONE);
        });
    }

    private static void typesAndOrderAreGone() {
        inEveryStage((after, codec) -> {
            for (int k = 0; k < 8; k++) {
                CHECKS.due(after + ": frameType(" + k + ")", codec.frameType(k), GopVideoCodec.NONE);
                CHECKS.due(after + ": codingOrder(" + k + ")", codec.codingOrder(k), GopVideoCodec.NONE);
            }
        });
    }

    private static void blockDataIsGone() {
        inEveryStage((after, codec) -> {
            for (int at = 0; at < 32; at++) {
                String of = "(" + at / 4 + ", " + at % 4;
                CHECKS.due(after + ": blockMode" + of + ")", codec.blockMode(at / 4, at % 4), GopVideoCodec.NONE);
                CHECKS.due(after + ": nonZero" + of + ")", codec.nonZero(at / 4, at % 4), GopVideoCodec.NONE);
                for (int part = 0; part < 4; part++) {
                    CHECKS.due(after + ": blockVector" + of + ", " + part / 2 + ", " + part % 2 + ")",
                            codec.blockVector(at / 4, at % 4, part / 2, part % 2), GopVideoCodec.NO_VECTOR);
                }
            }
        });
    }

    private static void releasedFramesAreGone() {
        planeIsGone(GopVideoCodec.PLANE_OUTPUT);
        inEveryStage((after, codec) -> {
            for (int k = 0; k < 8; k++) {
                CHECKS.due(after + ": outputFrame(" + k + ")", codec.outputFrame(k), GopVideoCodec.NONE);
            }
            CHECKS.due(after + ": decodeNext()", codec.decodeNext(), GopVideoCodec.NONE);
        });
    }

    private static void nothingComesBackWithTheNextGroup() {
        inEveryStage((after, codec) -> {
            GopVideoCodec other = Stage.fresh();
            for (int k = 0; k < 8; k++) {
                CHECKS.due(after + ": appendGradient(" + k + ", 3, 9)", codec.appendGradient(k, 3, 9), k);
                other.appendGradient(k, 3, 9);
                CHECKS.sameAnswers(after + ": is append " + k + " as on a new object?",
                        Checks.allAnswers(codec), Checks.allAnswers(other));
            }
            CHECKS.sameAnswers(after + ": does all go on as on a new object?",
                    Checks.future(codec), Checks.future(other));
        });
        inEveryStage((after, codec) -> CHECKS.sameAnswers(after + ": is a shorter group as on a new object?",
                Checks.future(codec), Checks.future(Stage.fresh())));
    }

    private static void settingsStay() {
        inEveryStage((after, codec) -> {
            CHECKS.due(after + ": Qs", codec.status(GopVideoCodec.STATUS_QUANT), Stage.QUANT);
            CHECKS.due(after + ": R", codec.status(GopVideoCodec.STATUS_RANGE), Stage.RANGE);
            CHECKS.due(after + ": M", codec.status(GopVideoCodec.STATUS_BFRAMES), Stage.B_FRAMES);
        });
    }

    public static void main(String[] args) {
        CHECKS.sentence("reset() always works, in every phase", ResetTest::worksInEveryPhase);
        CHECKS.sentence("no frames (n = 0), PHASE_LOADING, counts of 0", ResetTest::startsAgain);
        CHECKS.sentence("all input frames are gone", ResetTest::inputFramesAreGone);
        CHECKS.sentence("all recon frames are gone", () -> planeIsGone(GopVideoCodec.PLANE_RECON));
        CHECKS.sentence("types and coding order are gone", ResetTest::typesAndOrderAreGone);
        CHECKS.sentence("block data are gone", ResetTest::blockDataIsGone);
        CHECKS.sentence("released frames are gone", ResetTest::releasedFramesAreGone);
        CHECKS.sentence("all are gone: nothing comes back with the next group",
                ResetTest::nothingComesBackWithTheNextGroup);
        CHECKS.sentence("the settings Qs, R and M stay", ResetTest::settingsStay);
        CHECKS.finish();
    }
}
