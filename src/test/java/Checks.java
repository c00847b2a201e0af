import java.util.Arrays;
import java.util.function.Consumer;
import java.util.function.Supplier;
import java.util.stream.IntStream;

/** Counts and prints the answers that are not the ones that are due, sentence by sentence of the document. */
final class Checks {
    static final int[] EDGES = {Integer.MIN_VALUE, -128, -1, 0, 1, 2, 3, 7, 8, 9, 64, 255, 256, Integer.MAX_VALUE};

    /** A call of the document's face; a boolean counts 1 or 0. */
    interface Call {
        int on(GopVideoCodec codec);
    }

    private int right = 0;
    private int wrong = 0;
    private int held = 0;
    private int broken = 0;

    /** The test of one sentence of the document, told by its words or by what they come to. */
    void sentence(String words, Runnable test) {
        int rightBefore = right;
        int wrongBefore = wrong;
        runAndCatch(test);
        if (wrong == wrongBefore && right > rightBefore) {
            held++;
        } else {
            broken++;
            System.out.println("does not hold: " + words);
        }
    }

    /** No call may throw; if one does, the other sentences have their turn all the same. */
    private void runAndCatch(Runnable test) {
        try {
            test.run();
        } catch (RuntimeException thrown) {
            wrong++;
            thrown.printStackTrace(System.out);
        }
    }

    void due(String call, long got, long want) {
        if (got == want) {
            right++;
        } else {
            wrong++;
            System.out.println(call + " answered " + got + ", due is " + want);
        }
    }

    void due(String call, boolean got, boolean want) {
        due(call, got ? 1 : 0, want ? 1 : 0);
    }

    /** The call answers the refusal and changes nothing. */
    void refused(String call, int refusal, Call made, Supplier<GopVideoCodec> maker) {
        changesNothing(call, codec -> due(call, made.on(codec), refusal), maker);
    }

    /** No answer differs after the calls, and none ever will from those of a twin without them. */
    void changesNothing(String call, Consumer<GopVideoCodec> calls, Supplier<GopVideoCodec> maker) {
        GopVideoCodec codec = maker.get();
        int[] before = allAnswers(codec);
        calls.accept(codec);
        sameAnswers(call + ": are all answers as before?", allAnswers(codec), before);
        sameAnswers(call + ": are all later answers as without the call?", future(codec), future(maker.get()));
    }

    void sameAnswers(String question, int[] got, int[] want) {
        due(question, Arrays.equals(got, want), true);
    }

    void pixels(String name, GopVideoCodec codec, int plane, int frame, int[] rows) {
        for (int place = 0; place < 64; place++) {
            int x = place % 8;
            int y = place / 8;
            due(name + " pixel(" + plane + ", " + frame + ", " + x + ", " + y + ")",
                    codec.pixel(plane, frame, x, y), rows[place]);
        }
    }

    void samePixels(String name, GopVideoCodec codec, int planeA, int planeB, int frame) {
        int[] want = picture(codec, planeB, frame);
        boolean isReadable = Arrays.stream(want).allMatch(value -> value >= 0 && value <= 255);
        due(name + " is frame " + frame + " readable on plane " + planeB + "?", isReadable, true);
        pixels(name, codec, planeA, frame, want);
    }

    void finish() {
        System.out.println(held + " sentences hold, " + broken + " do not; "
                + right + " answers are as due, " + wrong + " are not");
        if (wrong != 0 || broken != 0 || right == 0) {
            System.exit(1);
        }
    }

    /** All that the object can be asked, with arguments on and just past each edge. */
    static int[] allAnswers(GopVideoCodec codec) {
        int[] answers = new int[4000];
        int size = 0;
        for (int kind = -1; kind <= 7; kind++) {
            answers[size++] = codec.status(kind);
        }
        for (int frame = -1; frame <= 8; frame++) {
            answers[size++] = codec.frameType(frame);
            answers[size++] = codec.codingOrder(frame);
            answers[size++] = codec.outputFrame(frame);
            for (int block = -1; block <= 4; block++) {
                answers[size++] = codec.blockMode(frame, block);
                answers[size++] = codec.nonZero(frame, block);
                for (int part = 0; part < 4; part++) {
                    answers[size++] = codec.blockVector(frame, block, part / 2, part % 2);
                }
            }
            for (int plane = 0; plane <= 2; plane++) {
                for (int place = 0; place < 64; place++) {
                    answers[size++] = codec.pixel(plane, frame, place % 8, place / 8);
                }
            }
        }
        return Arrays.copyOf(answers, size);
    }

    /** Carries the object on to the end of its group and through one more, and answers all that it says. */
    static int[] future(GopVideoCodec codec) {
        IntStream.Builder answers = IntStream.builder();
        for (int group = 0; group < 2; group++) {
            // A coded group is decoded and no more, lest a call made here hide what one before has done.
            if (codec.status(GopVideoCodec.STATUS_PHASE) == GopVideoCodec.PHASE_LOADING) {
                answers.add(codec.appendMoved(0, 1, 2, 3));
                answers.add(codec.appendTexture(11));
                answers.add(codec.appendMoved(0, -1, 0, 9));
                answers.add(codec.setPixel(1, 2, 3, 4) ? 1 : 0);
                answers.add(codec.encode());
            }
            for (int k = 0; k <= GopVideoCodec.MAX_FRAMES; k++) {
                answers.add(codec.decodeNext());
                Arrays.stream(allAnswers(codec)).forEach(answers::add);
            }
            codec.reset();
            Arrays.stream(allAnswers(codec)).forEach(answers::add);
        }
        return answers.build().toArray();
    }

    /** A coded object with the document's example: types I B B P P, order 0 3 1 2 4. */
    static GopVideoCodec codedExample(int quant) {
        GopVideoCodec codec = new GopVideoCodec(quant, 2, 2);
        codec.appendTexture(7);
        codec.appendMoved(0, 1, 0, 0);
        codec.appendMoved(0, 2, 1, 0);
        codec.appendMoved(0, 2, 2, 5);
        codec.appendGradient(40, 3, 5);
        codec.encode();
        return codec;
    }

    static void decodeAll(GopVideoCodec codec) {
        for (int k = 0; k < GopVideoCodec.MAX_FRAMES; k++) {
            codec.decodeNext();
        }
    }

    static int[] picture(GopVideoCodec codec, int plane, int frame) {
        int[] rows = new int[64];
        for (int place = 0; place < 64; place++) {
            rows[place] = codec.pixel(plane, frame, place % 8, place / 8);
        }
        return rows;
    }

    static int[] flat(int value) {
        int[] rows = new int[64];
        Arrays.fill(rows, value);
        return rows;
    }

    /** Appends a frame with just these pixels. */
    static void append(GopVideoCodec codec, int[] rows) {
        int frame = codec.appendGradient(0, 0, 0);
        for (int place = 0; place < 64; place++) {
            codec.setPixel(frame, place % 8, place / 8, rows[place]);
        }
    }

    /** An object with just these frames, coded. */
    static GopVideoCodec coded(GopVideoCodec codec, int[]... frames) {
        for (int[] rows : frames) {
            append(codec, rows);
        }
        codec.encode();
        return codec;
    }
}
