/** The states of an object's life that the document tells apart, each made with Qs = 9, R = 2 and M = 3. */
enum Stage {
    NEW(0, false, 0, 0),
    LOADING(3, false, 0, 0),
    FULL(8, false, 0, 0),
    CODED(5, true, 0, 0),
    CODED_FULL(8, true, 0, 0),
    // Coding order 0 4 1 2 3 7 5 6: frame 4 waits for 2 and 3.
    PARTLY_DECODED(8, true, 3, 2),
    DECODED(5, true, 5, 5),
    DECODED_FULL(8, true, 8, 8);

    static final int QUANT = 9;
    static final int RANGE = 2;
    static final int B_FRAMES = 3;

    final int frames;
    final boolean isCoded;
    final int decodedCount;
    final int outputCount;

    Stage(int frames, boolean isCoded, int decodedCount, int outputCount) {
        this.frames = frames;
        this.isCoded = isCoded;
        this.decodedCount = decodedCount;
        this.outputCount = outputCount;
    }

    static GopVideoCodec fresh() {
        return new GopVideoCodec(QUANT, RANGE, B_FRAMES);
    }

    GopVideoCodec make() {
        GopVideoCodec codec = fresh();
        for (int frame = 0; frame < frames; frame++) {
            appendSome(codec, frame);
        }
        if (isCoded) {
            codec.encode();
        }
        for (int k = 0; k < decodedCount; k++) {
            codec.decodeNext();
        }
        return codec;
    }

    GopVideoCodec makeAndReset() {
        GopVideoCodec codec = make();
        codec.reset();
        return codec;
    }

    private static void appendSome(GopVideoCodec codec, int frame) {
        switch (frame % 3) {
            case 0 -> codec.appendTexture(100 + frame);
            case 1 -> codec.appendMoved(frame - 1, 1, -1, 6);
            default -> codec.appendGradient(20 * frame, 7, -5);
        }
        codec.setPixel(frame, frame, 7 - frame, 250);
    }
}
