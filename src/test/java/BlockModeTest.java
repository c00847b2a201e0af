/** Promise 12, and the choice of the mode in promise 7. */
public final class BlockModeTest {
    private static final Checks CHECKS = new Checks();

    private static void modes(String name, int[] first, int[] between, int[] last, int mode) {
        GopVideoCodec codec = BlockAnswers.coded(first, between, last);
        for (int block = 0; block < 4; block++) {
            CHECKS.due(name + ": blockMode(0, " + block + ")", codec.blockMode(0, block), GopVideoCodec.MODE_INTRA);
            CHECKS.due(name + ": blockMode(2, " + block + ")", codec.blockMode(2, block), GopVideoCodec.MODE_FORWARD);
            CHECKS.due(name + ": blockMode(1, " + block + ")", codec.blockMode(1, block), mode);
        }
    }

    private static void flats(int first, int between, int last, int mode) {
        modes(first + " " + between + " " + last, Checks.flat(first), Checks.flat(between), Checks.flat(last), mode);
    }

    /** One shade on the even places, another on the odd. */
    private static int[] mixed(int even, int odd) {
        int[] rows = new int[64];
        for (int place = 0; place < 64; place++) {
            rows[place] = place % 2 == 0 ? even : odd;
        }
        return rows;
    }

    private static int[] quarters(int... shades) {
        int[] rows = new int[64];
        for (int place = 0; place < 64; place++) {
            rows[place] = shades[place / 32 * 2 + place % 8 / 4];
        }
        return rows;
    }

    public static void main(String[] args) {
        flats(100, 100, 200, GopVideoCodec.MODE_FORWARD);
        flats(100, 200, 200, GopVideoCodec.MODE_BACKWARD);
        flats(100, 150, 200, GopVideoCodec.MODE_BI);
        flats(100, 126, 200, GopVideoCodec.MODE_BI);
        flats(100, 124, 200, GopVideoCodec.MODE_FORWARD);
        flats(100, 176, 200, GopVideoCodec.MODE_BACKWARD);
        // The ties: all three, forward and both, backward and both, forward and backward.
        flats(100, 100, 100, GopVideoCodec.MODE_FORWARD);
        flats(100, 90, 100, GopVideoCodec.MODE_FORWARD);
        flats(101, 101, 100, GopVideoCodec.MODE_FORWARD);
        flats(100, 101, 101, GopVideoCodec.MODE_BACKWARD);
        flats(100, 125, 200, GopVideoCodec.MODE_FORWARD);
        flats(100, 175, 200, GopVideoCodec.MODE_BACKWARD);
        modes("forward and backward", mixed(100, 101), Checks.flat(100), mixed(101, 100), GopVideoCodec.MODE_FORWARD);
        // Half is rounded up: at 100 and 101 both give 101.
        modes("rounded up", mixed(100, 102), Checks.flat(101), mixed(101, 100), GopVideoCodec.MODE_BI);

        GopVideoCodec codec = BlockAnswers.coded(Checks.flat(100), quarters(100, 200, 150, 110), Checks.flat(200));
        int[] modes = {GopVideoCodec.MODE_FORWARD, GopVideoCodec.MODE_BACKWARD,
            GopVideoCodec.MODE_BI, GopVideoCodec.MODE_FORWARD};
        for (int block = 0; block < 4; block++) {
            CHECKS.due("quarters: blockMode(1, " + block + ")", codec.blockMode(1, block), modes[block]);
        }

        BlockAnswers.checkRefusals(CHECKS, "blockMode", GopVideoCodec.NONE, GopVideoCodec::blockMode);
        CHECKS.finish();
    }
}
