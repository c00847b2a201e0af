/** Promise 13. */
public final class BlockVectorTest {
    private static final Checks CHECKS = new Checks();

    private static void vectors(String name, GopVideoCodec codec, int frame, int block, int... want) {
        for (int part = 0; part < 4; part++) {
            CHECKS.due(name + ": blockVector(" + frame + ", " + block + ", " + part / 2 + ", " + part % 2 + ")",
                    codec.blockVector(frame, block, part / 2, part % 2), want[part]);
        }
    }

    private static void wrongLists() {
        for (int list : new int[] {Integer.MIN_VALUE, -2, -1, 2, 3, 4, Integer.MAX_VALUE}) {
            for (int at = 0; at < 5 * 4 * 2; at++) {
                CHECKS.due("blockVector(" + at / 8 + ", " + at / 2 % 4 + ", " + list + ", " + at % 2 + ")",
                        Checks.codedExample(1).blockVector(at / 8, at / 2 % 4, list, at % 2), GopVideoCodec.NO_VECTOR);
            }
        }
    }

    private static void wrongComps() {
        for (int comp : new int[] {Integer.MIN_VALUE, -2, -1, 2, 3, 4, Integer.MAX_VALUE}) {
            for (int at = 0; at < 5 * 4 * 2; at++) {
                CHECKS.due("blockVector(" + at / 8 + ", " + at / 2 % 4 + ", " + at % 2 + ", " + comp + ")",
                        Checks.codedExample(1).blockVector(at / 8, at / 2 % 4, at % 2, comp), GopVideoCodec.NO_VECTOR);
            }
        }
    }

    private static void wrongListsAndCompsChangeNothing() {
        CHECKS.changesNothing("blockVector", codec -> {
            for (int list : Checks.EDGES) {
                for (int comp : Checks.EDGES) {
                    codec.blockVector(1, 2, list, comp);
                }
            }
        }, Stage.PARTLY_DECODED::make);
    }

    private static int at(int v) {
        return v < 0 ? 0 : v > 7 ? 7 : v;
    }

    /**
     * I B B B P with Qs = 1: frame 1 is the I frame moved, frame 2 the P frame moved, and
     * frame 3 the mean of both, moved each its own way.
     */
    private static GopVideoCodec oneFrameForEachMode() {
        GopVideoCodec codec = new GopVideoCodec(1, 2, 3);
        codec.appendTexture(5);
        codec.appendMoved(0, 1, 2, 0);
        codec.appendGradient(0, 0, 0);
        codec.appendGradient(0, 0, 0);
        codec.appendTexture(6);
        for (int place = 0; place < 64; place++) {
            int x = place % 8;
            int y = place / 8;
            int past = codec.pixel(0, 0, at(x - 1), at(y + 2));
            int next = codec.pixel(0, 4, at(x + 2), at(y - 1));
            codec.setPixel(2, x, y, next);
            codec.setPixel(3, x, y, (past + next + 1) >> 1);
        }
        codec.encode();
        return codec;
    }

    private static void forwardUsesList0() {
        GopVideoCodec codec = oneFrameForEachMode();
        for (int block = 0; block < 4; block++) {
            CHECKS.due("blockMode(1, " + block + ")", codec.blockMode(1, block), GopVideoCodec.MODE_FORWARD);
            vectors("forward", codec, 1, block, -1, -2, 0, 0);
            CHECKS.due("nonZero(1, " + block + ") with that vector", codec.nonZero(1, block), 0);
        }
    }

    private static void backwardUsesList1() {
        GopVideoCodec codec = oneFrameForEachMode();
        for (int block = 0; block < 4; block++) {
            CHECKS.due("blockMode(2, " + block + ")", codec.blockMode(2, block), GopVideoCodec.MODE_BACKWARD);
            vectors("backward", codec, 2, block, 0, 0, 2, -1);
            CHECKS.due("nonZero(2, " + block + ") with that vector", codec.nonZero(2, block), 0);
        }
    }

    private static void biUsesBoth() {
        GopVideoCodec codec = oneFrameForEachMode();
        int both = 0;
        for (int block = 0; block < 4; block++) {
            if (codec.nonZero(3, block) == 0) {
                both++;
                CHECKS.due("blockMode(3, " + block + ")", codec.blockMode(3, block), GopVideoCodec.MODE_BI);
                vectors("both", codec, 3, block, -1, 2, 2, -1);
            }
        }
        CHECKS.due("do both searches find their half of the mean in some block?", both > 0, true);
    }

    private static void intraUsesNone() {
        GopVideoCodec codec = oneFrameForEachMode();
        for (int block = 0; block < 4; block++) {
            vectors("intra", codec, 0, block, 0, 0, 0, 0);
        }
        // Nor is there anything left of a group before, whose frame 0 was the same object's.
        codec.reset();
        codec.appendTexture(9);
        codec.encode();
        for (int block = 0; block < 4; block++) {
            vectors("intra of the next group", codec, 0, block, 0, 0, 0, 0);
        }
    }

    private static void everyAnswerLiesInRange() {
        for (int range = 0; range <= 2; range++) {
            for (int seed = 0; seed < 20; seed++) {
                GopVideoCodec codec = new GopVideoCodec(20, range, seed % 4);
                for (int frame = 0; frame < 8; frame++) {
                    codec.appendTexture(frame * 31 + seed);
                }
                codec.encode();
                for (int at = 0; at < 8 * 16; at++) {
                    int got = codec.blockVector(at / 16, at / 4 % 4, at / 2 % 2, at % 2);
                    CHECKS.due("is " + got + " in range " + range + "?", got >= -range && got <= range, true);
                }
            }
        }
    }

    public static void main(String[] args) {
        for (int part = 0; part < 4; part++) {
            int list = part / 2;
            int comp = part % 2;
            CodedAnswers answers = new CodedAnswers(CHECKS, "blockVector, list " + list + ", comp " + comp,
                    GopVideoCodec.NO_VECTOR, (codec, frame, block) -> codec.blockVector(frame, block, list, comp));
            answers.blockSentences();
        }
        CHECKS.sentence("NO_VECTOR when list is not 0 or 1", BlockVectorTest::wrongLists);
        CHECKS.sentence("NO_VECTOR when comp is not 0 or 1", BlockVectorTest::wrongComps);
        CHECKS.sentence("it changes nothing, with a wrong list or comp either",
                BlockVectorTest::wrongListsAndCompsChangeNothing);
        CHECKS.sentence("FORWARD uses list 0, otherwise it is 0", BlockVectorTest::forwardUsesList0);
        CHECKS.sentence("BACKWARD uses list 1, otherwise it is 0", BlockVectorTest::backwardUsesList1);
        CHECKS.sentence("BI uses both", BlockVectorTest::biUsesBoth);
        CHECKS.sentence("INTRA uses none", BlockVectorTest::intraUsesNone);
        CHECKS.sentence("every answer other than NO_VECTOR lies in -R..R", BlockVectorTest::everyAnswerLiesInRange);
        CHECKS.finish();
    }
}
