/** Promise 12, and the choice of the mode in promise 7. */
public final class BlockModeTest {
    private static final Checks CHECKS = new Checks();

    /** Three frames, coded without motion and without loss, with frame 1 a B frame. */
    private static void modes(String name, int[] first, int[] between, int[] last, int mode) {
        GopVideoCodec codec = Checks.coded(new GopVideoCodec(1, 0, 1), first, between, last);
        for (int block = 0; block < 4; block++) {
            CHECKS.due(name + ": blockMode(1, " + block + ")", codec.blockMode(1, block), mode);
        }
    }

    private static void flats(int first, int between, int last, int mode) {
        modes(first + " " + between + " " + last, Checks.flat(first), Checks.flat(between), Checks.flat(last), mode);
    }

    /** One shade on the even places, another on the odd. */
    private static int[] mixed(int even, int odd) {
        int[] rows = new int[64];
        for (int place = 0; place < 64; place++) {
            rows[place] = place % 2 == 0 ? even : odd;
        }
        return rows;
    }

    private static int[] quarters(int... shades) {
        int[] rows = new int[64];
        for (int place = 0; place < 64; place++) {
            rows[place] = shades[place / 32 * 2 + place % 8 / 4];
        }
        return rows;
    }

    private static void everyBlockOf(char type, int mode) {
        String types = "IBBPBBPP";
        GopVideoCodec codec = new GopVideoCodec(20, 2, 2);
        for (int frame = 0; frame < 8; frame++) {
            codec.appendTexture(frame * 77);
        }
        codec.encode();
        for (int at = 0; at < 32; at++) {
            if (types.charAt(at / 4) == type) {
                CHECKS.due("blockMode(" + at / 4 + ", " + at % 4 + ")", codec.blockMode(at / 4, at % 4), mode);
            }
        }
    }

    private static void theLeastCostIsTaken() {
        flats(100, 100, 200, GopVideoCodec.MODE_FORWARD);
        flats(100, 200, 200, GopVideoCodec.MODE_BACKWARD);
        flats(100, 150, 200, GopVideoCodec.MODE_BI);
        // The mean is 150: up to 125 the first is as near, from 175 on the last is.
        flats(100, 124, 200, GopVideoCodec.MODE_FORWARD);
        flats(100, 126, 200, GopVideoCodec.MODE_BI);
        flats(100, 174, 200, GopVideoCodec.MODE_BI);
        flats(100, 176, 200, GopVideoCodec.MODE_BACKWARD);
    }

    /** All frames are flat but for a few pixels a block, each a first, a between and a last shade. */
    private static void fewPixels(int mode, int[]... pixels) {
        int[][] frames = {Checks.flat(100), Checks.flat(100), Checks.flat(100)};
        for (int block = 0; block < 4; block++) {
            for (int k = 0; k < pixels.length; k++) {
                int place = 8 * (2 + block / 2 * 4) + k + block % 2 * 4;
                for (int frame = 0; frame < 3; frame++) {
                    frames[frame][place] = pixels[k][frame];
                }
            }
        }
        modes(pixels.length + " pixels", frames[0], frames[1], frames[2], mode);
    }

    private static void theLeastCostIsTakenByAsLittleAs1() {
        // Costs of 0, 2 and 1; of 2, 0 and 1; of 1, 1 and 0, for forward, backward and both.
        fewPixels(GopVideoCodec.MODE_FORWARD, new int[] {102, 102, 100});
        fewPixels(GopVideoCodec.MODE_BACKWARD, new int[] {100, 102, 102});
        fewPixels(GopVideoCodec.MODE_BI, new int[] {100, 101, 102});
        // Costs of 0, 1 and 0; of 1, 0 and 0.
        fewPixels(GopVideoCodec.MODE_FORWARD, new int[] {101, 101, 100});
        fewPixels(GopVideoCodec.MODE_BACKWARD, new int[] {100, 101, 101});
        // Costs of 1, 2 and 3; of 2, 1 and 3: the mean, rounded up, is off at every pixel.
        int[] likeFirst = {100, 100, 101};
        int[] likeLast = {101, 100, 100};
        fewPixels(GopVideoCodec.MODE_FORWARD, likeFirst, likeFirst, likeLast);
        fewPixels(GopVideoCodec.MODE_BACKWARD, likeFirst, likeLast, likeLast);
    }

    private static void forwardTiesWithBi() {
        flats(101, 101, 100, GopVideoCodec.MODE_FORWARD);
        flats(100, 125, 200, GopVideoCodec.MODE_FORWARD);
    }

    private static void backwardTiesWithBi() {
        flats(100, 101, 101, GopVideoCodec.MODE_BACKWARD);
        flats(100, 175, 200, GopVideoCodec.MODE_BACKWARD);
    }

    private static void forwardTiesWithBackward() {
        // Both are off by 1 at every second pixel, and the mean, 101, is off by 1 everywhere.
        modes("forward and backward", mixed(100, 101), Checks.flat(100), mixed(101, 100), GopVideoCodec.MODE_FORWARD);
    }

    private static void allThreeTie() {
        flats(100, 100, 100, GopVideoCodec.MODE_FORWARD);
        flats(100, 90, 100, GopVideoCodec.MODE_FORWARD);
        flats(0, 255, 0, GopVideoCodec.MODE_FORWARD);
    }

    private static void halfIsRoundedUp() {
        // The mean of 100 and 101 is taken for 101; rounded down, backward would be as near.
        modes("rounded up", mixed(100, 102), Checks.flat(101), mixed(101, 100), GopVideoCodec.MODE_BI);
    }

    private static void eachBlockHasAModeOfItsOwn() {
        GopVideoCodec codec = Checks.coded(new GopVideoCodec(1, 0, 1),
                Checks.flat(100), quarters(100, 200, 150, 110), Checks.flat(200));
        int[] modes = {GopVideoCodec.MODE_FORWARD, GopVideoCodec.MODE_BACKWARD,
            GopVideoCodec.MODE_BI, GopVideoCodec.MODE_FORWARD};
        for (int block = 0; block < 4; block++) {
            CHECKS.due("quarters: blockMode(1, " + block + ")", codec.blockMode(1, block), modes[block]);
        }
    }

    public static void main(String[] args) {
        CodedAnswers answers = new CodedAnswers(CHECKS, "blockMode", GopVideoCodec.NONE, GopVideoCodec::blockMode);
        answers.blockSentences();
        CHECKS.sentence("MODE_INTRA for every block of an I frame", () -> everyBlockOf('I', GopVideoCodec.MODE_INTRA));
        CHECKS.sentence("MODE_FORWARD for every block of a P frame",
                () -> everyBlockOf('P', GopVideoCodec.MODE_FORWARD));
        CHECKS.sentence("the mode with the least cost is taken", BlockModeTest::theLeastCostIsTaken);
        CHECKS.sentence("the least cost, by as little as 1", BlockModeTest::theLeastCostIsTakenByAsLittleAs1);
        CHECKS.sentence("a tie of FORWARD and BI goes to FORWARD", BlockModeTest::forwardTiesWithBi);
        CHECKS.sentence("a tie of BACKWARD and BI goes to BACKWARD", BlockModeTest::backwardTiesWithBi);
        CHECKS.sentence("a tie of FORWARD and BACKWARD goes to FORWARD", BlockModeTest::forwardTiesWithBackward);
        CHECKS.sentence("a tie of all three goes to FORWARD", BlockModeTest::allThreeTie);
        CHECKS.sentence("pbi = (pf + pb + 1) >> 1", BlockModeTest::halfIsRoundedUp);
        CHECKS.sentence("for each block a prediction and a mode are chosen", BlockModeTest::eachBlockHasAModeOfItsOwn);
        CHECKS.finish();
    }
}
