import java.util.Arrays;

/** Counts and prints the answers that are not the ones that are due. */
final class Checks {
    static final int[] EDGES = {Integer.MIN_VALUE, -128, -1, 0, 1, 7, 8, 9, 64, 255, 256, Integer.MAX_VALUE};

    private int right = 0;
    private int wrong = 0;

    void due(String call, long got, long want) {
        if (got == want) {
            right++;
        } else {
            wrong++;
            System.out.println(call + " answered " + got + ", due is " + want);
        }
    }

    void due(String call, boolean got, boolean want) {
        due(call, got ? 1 : 0, want ? 1 : 0);
    }

    /** Every answer of the object is as in the row that allAnswers() gave before. */
    void unchanged(String call, int[] before, GopVideoCodec codec) {
        boolean same = Arrays.equals(before, allAnswers(codec));
        due(call + ": are all other answers as before?", same, true);
    }

    void pixels(String name, GopVideoCodec codec, int plane, int frame, int[] rows) {
        for (int place = 0; place < 64; place++) {
            int x = place % 8;
            int y = place / 8;
            due(name + " pixel(" + plane + ", " + frame + ", " + x + ", " + y + ")",
                    codec.pixel(plane, frame, x, y), rows[place]);
        }
    }

    void samePixels(String name, GopVideoCodec codec, int planeA, int planeB, int frame) {
        for (int place = 0; place < 64; place++) {
            int x = place % 8;
            int y = place / 8;
            int want = codec.pixel(planeB, frame, x, y);
            due(name + " pixel(" + planeA + ", " + frame + ", " + x + ", " + y + ")",
                    codec.pixel(planeA, frame, x, y), want);
            due(name + " is that pixel 0..255?", want >= 0 && want <= 255, true);
        }
    }

    void finish() {
        System.out.println(right + " answers are as due, " + wrong + " are not");
        if (wrong != 0 || right == 0) {
            System.exit(1);
        }
    }

    /** All that the object can be asked, with arguments on and just past each edge. */
    static int[] allAnswers(GopVideoCodec codec) {
        int[] answers = new int[4000];
        int size = 0;
        for (int kind = -1; kind <= 7; kind++) {
            answers[size++] = codec.status(kind);
        }
        for (int frame = -1; frame <= 8; frame++) {
            answers[size++] = codec.frameType(frame);
            answers[size++] = codec.codingOrder(frame);
            answers[size++] = codec.outputFrame(frame);
            for (int block = -1; block <= 4; block++) {
                answers[size++] = codec.blockMode(frame, block);
                answers[size++] = codec.nonZero(frame, block);
                for (int part = 0; part < 4; part++) {
                    answers[size++] = codec.blockVector(frame, block, part / 2, part % 2);
                }
            }
            for (int plane = 0; plane <= 2; plane++) {
                for (int place = 0; place < 64; place++) {
                    answers[size++] = codec.pixel(plane, frame, place % 8, place / 8);
                }
            }
        }
        return Arrays.copyOf(answers, size);
    }

    /** A coded object with the document's example: types I B B P P, order 0 3 1 2 4. */
    static GopVideoCodec codedExample(int quant) {
        GopVideoCodec codec = new GopVideoCodec(quant, 2, 2);
        codec.appendTexture(7);
        codec.appendMoved(0, 1, 0, 0);
        codec.appendMoved(0, 2, 1, 0);
        codec.appendMoved(0, 2, 2, 5);
        codec.appendGradient(40, 3, 5);
        codec.encode();
        return codec;
    }

    static void decodeAll(GopVideoCodec codec) {
        for (int k = 0; k < GopVideoCodec.MAX_FRAMES; k++) {
            codec.decodeNext();
        }
    }

    static int[] flat(int value) {
        int[] rows = new int[64];
        Arrays.fill(rows, value);
        return rows;
    }

    /** Appends a frame with just these pixels. */
    static void append(GopVideoCodec codec, int[] rows) {
        int frame = codec.appendGradient(0, 0, 0);
        for (int place = 0; place < 64; place++) {
            codec.setPixel(frame, place % 8, place / 8, rows[place]);
        }
    }
}
