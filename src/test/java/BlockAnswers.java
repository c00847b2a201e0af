/** What the questions for a block have in common: when they refuse, and that they change nothing. */
final class BlockAnswers {
    interface Question {
        int of(GopVideoCodec codec, int frame, int block);
    }

    static void checkRefusals(Checks checks, String name, int refusal, Question question) {
        GopVideoCodec codec = new GopVideoCodec(8, 2, 1);
        checks.due(name + " of a new object", question.of(codec, 0, 0), refusal);
        codec.appendTexture(1);
        codec.appendTexture(2);
        codec.appendTexture(3);
        checks.due(name + " before encode()", question.of(codec, 0, 0), refusal);
        codec.encode();
        for (int round = 0; round < 2; round++) {
            int[] before = Checks.allAnswers(codec);
            for (int frame : new int[] {Integer.MIN_VALUE, -1, 3, 4, 8, Integer.MAX_VALUE}) {
                checks.due(name + " of frame " + frame, question.of(codec, frame, 0), refusal);
            }
            for (int block : new int[] {Integer.MIN_VALUE, -4, -1, 4, 5, Integer.MAX_VALUE}) {
                checks.due(name + " of block " + block, question.of(codec, 1, block), refusal);
            }
            for (int at = 0; at < 12; at++) {
                int answer = question.of(codec, at / 4, at % 4);
                checks.due(name + " of block " + at % 4 + " of frame " + at / 4 + " refused?", answer == refusal, false);
            }
            checks.unchanged(name, before, codec);
            Checks.decodeAll(codec);
        }
        codec.reset();
        checks.due(name + " after reset()", question.of(codec, 0, 0), refusal);
    }

    /** An object with frames of these shades, coded without motion and without loss, with frame 1 a B frame. */
    static GopVideoCodec coded(int[] first, int[] between, int[] last) {
        GopVideoCodec codec = new GopVideoCodec(1, 0, 1);
        Checks.append(codec, first);
        Checks.append(codec, between);
        Checks.append(codec, last);
        codec.encode();
        return codec;
    }
}
