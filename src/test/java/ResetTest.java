/** Promise 2. */
public final class ResetTest {
    private static final Checks CHECKS = new Checks();

    private static GopVideoCodec fresh() {
        return new GopVideoCodec(9, 2, 3);
    }

    /** Stage 0: nothing done; 1: loading; 2: full; 3: coded; 4: partly decoded; 5: all decoded. */
    private static GopVideoCodec atStage(int stage) {
        GopVideoCodec codec = fresh();
        int frames = stage == 0 ? 0 : stage == 1 ? 3 : 8;
        for (int k = 0; k < frames; k++) {
            codec.appendTexture(100 + k);
        }
        if (stage >= 3) {
            codec.encode();
        }
        int decodes = stage == 4 ? 3 : stage == 5 ? 8 : 0;
        for (int k = 0; k < decodes; k++) {
            codec.decodeNext();
        }
        return codec;
    }

    private static void isAsNew(String name, GopVideoCodec codec) {
        CHECKS.due(name + " status(0)", codec.status(0), 0);
        CHECKS.due(name + " status(1)", codec.status(1), GopVideoCodec.PHASE_LOADING);
        CHECKS.due(name + " status(2)", codec.status(2), 0);
        CHECKS.due(name + " status(3)", codec.status(3), 0);
        CHECKS.due(name + " status(4)", codec.status(4), 9);
        CHECKS.due(name + " status(5)", codec.status(5), 2);
        CHECKS.due(name + " status(6)", codec.status(6), 3);
        CHECKS.unchanged(name, Checks.allAnswers(fresh()), codec);
        CHECKS.due(name + " encode()", codec.encode(), GopVideoCodec.NONE);
        CHECKS.due(name + " decodeNext()", codec.decodeNext(), GopVideoCodec.NONE);
        CHECKS.due(name + " appendMoved(0, 0, 0, 0)", codec.appendMoved(0, 0, 0, 0), GopVideoCodec.NONE);
        CHECKS.due(name + " setPixel(0, 0, 0, 0)", codec.setPixel(0, 0, 0, 0), false);
    }

    /** Nothing of the earlier group may be seen in the next one. */
    private static void nextGroupIsAsOnANewObject(String name, GopVideoCodec codec) {
        GopVideoCodec other = fresh();
        for (int k = 0; k < 4; k++) {
            CHECKS.due(name + " appendGradient(" + k + ", 3, 9)", codec.appendGradient(k, 3, 9), k);
            other.appendGradient(k, 3, 9);
            CHECKS.unchanged(name + " append", Checks.allAnswers(other), codec);
        }
        CHECKS.due(name + " encode()", codec.encode(), 4);
        other.encode();
        CHECKS.unchanged(name + " encode", Checks.allAnswers(other), codec);
        for (int k = 0; k < 5; k++) {
            CHECKS.due(name + " decodeNext()", codec.decodeNext(), other.decodeNext());
            CHECKS.unchanged(name + " decodeNext", Checks.allAnswers(other), codec);
        }
    }

    public static void main(String[] args) {
        for (int stage = 0; stage <= 5; stage++) {
            GopVideoCodec codec = atStage(stage);
            codec.reset();
            isAsNew("after reset at stage " + stage, codec);
            codec.reset();
            isAsNew("after a second reset at stage " + stage, codec);
            nextGroupIsAsOnANewObject("after reset at stage " + stage, codec);
        }
        CHECKS.finish();
    }
}
