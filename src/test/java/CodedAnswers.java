/** What the questions about a coded group have in common: when they refuse, and that they change nothing. */
final class CodedAnswers {
    interface Question {
        int of(GopVideoCodec codec, int frame, int block);
    }

    private final Checks checks;
    private final String name;
    private final int refusal;
    private final Question question;

    CodedAnswers(Checks checks, String name, int refusal, Question question) {
        this.checks = checks;
        this.name = name;
        this.refusal = refusal;
        this.question = question;
    }

    private void refused(String when, GopVideoCodec codec, int frame, int block) {
        checks.due(name + " of frame " + frame + ", block " + block + " " + when,
                question.of(codec, frame, block), refusal);
    }

    private void answered(String when, GopVideoCodec codec, int frame, int block) {
        checks.due(name + " of frame " + frame + ", block " + block + " " + when + " is refused?",
                question.of(codec, frame, block) == refusal, false);
    }

    void refusedUnlessCoded() {
        for (Stage stage : Stage.values()) {
            for (int frame = 0; frame < 8; frame++) {
                if (!stage.isCoded) {
                    refused("of " + stage, stage.make(), frame, 0);
                }
                refused("after reset() of " + stage, stage.makeAndReset(), frame, 0);
            }
        }
    }

    void refusedOutsideTheFrames() {
        for (Stage stage : Stage.values()) {
            if (stage.isCoded) {
                GopVideoCodec codec = stage.make();
                for (int frame : new int[] {Integer.MIN_VALUE, -8, -1, stage.frames, 8, 9, Integer.MAX_VALUE}) {
                    refused("of " + stage, codec, frame, 0);
                }
                for (int frame = 0; frame < stage.frames; frame++) {
                    answered("of " + stage, codec, frame, 0);
                }
            }
        }
    }

    void refusedOutsideTheBlocks() {
        GopVideoCodec codec = Stage.CODED.make();
        for (int frame = 0; frame < 5; frame++) {
            for (int block : new int[] {Integer.MIN_VALUE, -4, -1, 4, 5, 8, Integer.MAX_VALUE}) {
                refused("", codec, frame, block);
            }
            for (int block = 0; block < 4; block++) {
                answered("", codec, frame, block);
            }
        }
    }

    private void askAll(GopVideoCodec codec) {
        for (int frame : Checks.EDGES) {
            for (int block : Checks.EDGES) {
                question.of(codec, frame, block);
            }
        }
        for (int at = 0; at < 32; at++) {
            question.of(codec, at / 4, at % 4);
        }
    }

    void changesNothing() {
        for (Stage stage : Stage.values()) {
            checks.changesNothing(name + " of " + stage, this::askAll, stage::make);
        }
    }

    /** The sentences on a question for a frame or for a place in the coding order. */
    void frameSentences(String argument) {
        checks.sentence("NONE when the phase is not PHASE_CODED", this::refusedUnlessCoded);
        checks.sentence("NONE when " + argument + " is not in 0..n-1", this::refusedOutsideTheFrames);
        checks.sentence("it changes nothing", this::changesNothing);
    }

    /** The sentences on a question for a block. */
    void blockSentences() {
        checks.sentence(name + ": refused when the phase is not PHASE_CODED", this::refusedUnlessCoded);
        checks.sentence(name + ": refused when frame is not in 0..n-1", this::refusedOutsideTheFrames);
        checks.sentence(name + ": refused when block is not in 0..3", this::refusedOutsideTheBlocks);
        checks.sentence(name + ": it changes nothing", this::changesNothing);
    }
}
