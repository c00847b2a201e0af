/** What the three append calls have in common: which index is due and when they refuse. */
final class AppendAnswers {
    private final Checks checks;
    private final String call;
    private final Checks.Call append;

    /** The arguments of the call are in order once there is a frame. */
    AppendAnswers(Checks checks, String call, Checks.Call append) {
        this.checks = checks;
        this.call = call;
        this.append = append;
    }

    void refusedUnlessLoading() {
        for (Stage stage : Stage.values()) {
            if (stage.isCoded) {
                checks.refused(call + " of " + stage, GopVideoCodec.NONE, append, stage::make);
            }
        }
    }

    void refusedWhenFull() {
        checks.refused(call + " with n = 8", GopVideoCodec.NONE, append, Stage.FULL::make);
    }

    private static GopVideoCodec withOneFrame() {
        GopVideoCodec codec = Stage.fresh();
        codec.appendTexture(1);
        return codec;
    }

    void answersTheIndex() {
        GopVideoCodec codec = withOneFrame();
        for (int n = 1; n < GopVideoCodec.MAX_FRAMES; n++) {
            checks.due(call + " with n = " + n, append.on(codec), n);
            checks.due(call + ": n", codec.status(GopVideoCodec.STATUS_FRAMES), n + 1);
            int first = codec.pixel(GopVideoCodec.PLANE_INPUT, n, 0, 0);
            checks.due(call + ": is frame " + n + " readable?", first != GopVideoCodec.NONE, true);
        }
        checks.due(call + " for the ninth frame", append.on(codec), GopVideoCodec.NONE);
        checks.due(call + ": n after the ninth", codec.status(GopVideoCodec.STATUS_FRAMES), 8);
        GopVideoCodec after = Stage.CODED_FULL.makeAndReset();
        after.appendTexture(1);
        checks.due(call + " after reset()", append.on(after), 1);
    }

    void nothingElseChanges() {
        GopVideoCodec codec = withOneFrame();
        for (int n = 1; n < GopVideoCodec.MAX_FRAMES; n++) {
            int[][] earlier = new int[n][];
            for (int frame = 0; frame < n; frame++) {
                earlier[frame] = Checks.picture(codec, GopVideoCodec.PLANE_INPUT, frame);
            }
            append.on(codec);
            for (int frame = 0; frame < n; frame++) {
                checks.pixels(call + " leaves", codec, GopVideoCodec.PLANE_INPUT, frame, earlier[frame]);
            }
            int[] status = {n + 1, GopVideoCodec.PHASE_LOADING, 0, 0, Stage.QUANT, Stage.RANGE, Stage.B_FRAMES};
            for (int kind = 0; kind <= 6; kind++) {
                checks.due(call + ": status(" + kind + ")", codec.status(kind), status[kind]);
            }
        }
    }

    /** The sentences on all three append calls, which promise 3 tells and 4 and 5 repeat. */
    void sentences() {
        checks.sentence("refused when the phase is not PHASE_LOADING", this::refusedUnlessLoading);
        checks.sentence("refused when n == MAX_FRAMES", this::refusedWhenFull);
        checks.sentence("appends with display index n, n grows by one, answers that index", this::answersTheIndex);
        checks.sentence("nothing else changes", this::nothingElseChanges);
    }
}
