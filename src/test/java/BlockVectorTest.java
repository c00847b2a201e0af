/** Promise 13, and the motion search of promise 7. */
public final class BlockVectorTest {
    private static final Checks CHECKS = new Checks();

    private static void vector(String name, GopVideoCodec codec, int frame, int block, int... want) {
        for (int part = 0; part < 4; part++) {
            CHECKS.due(name + ": blockVector(" + frame + ", " + block + ", " + part / 2 + ", " + part % 2 + ")",
                    codec.blockVector(frame, block, part / 2, part % 2), want[part]);
        }
    }

    /** A copy moved by (dx, dy) is found again at (-dx, -dy), at the rim too. */
    private static void findsMoves() {
        for (int dy = -2; dy <= 2; dy++) {
            for (int dx = -2; dx <= 2; dx++) {
                GopVideoCodec codec = new GopVideoCodec(1, 2, 0);
                codec.appendTexture(77);
                codec.appendMoved(0, dx, dy, 0);
                codec.encode();
                for (int block = 0; block < 4; block++) {
                    vector("moved " + dx + ", " + dy, codec, 1, block, -dx, -dy, 0, 0);
                    vector("I frame", codec, 0, block, 0, 0, 0, 0);
                    CHECKS.due("moved: nonZero(1, " + block + ")", codec.nonZero(1, block), 0);
                }
            }
        }
    }

    private static void staysInRange() {
        for (int range = 0; range <= 2; range++) {
            GopVideoCodec codec = new GopVideoCodec(20, range, 2);
            for (int frame = 0; frame < 8; frame++) {
                codec.appendTexture(frame * 31);
            }
            codec.encode();
            for (int at = 0; at < 8 * 16; at++) {
                int got = codec.blockVector(at / 16, at / 4 % 4, at / 2 % 2, at % 2);
                CHECKS.due("is " + got + " in range " + range + "?", got >= -range && got <= range, true);
            }
        }
        GopVideoCodec codec = new GopVideoCodec(1, 0, 0);
        codec.appendTexture(77);
        codec.appendMoved(0, 1, 1, 0);
        codec.encode();
        vector("range 0", codec, 1, 3, 0, 0, 0, 0);
    }

    /** All candidates cost the same: the shortest vector, though (-2, -2) is visited first. */
    private static void tieGoesToTheShortest() {
        GopVideoCodec codec = new GopVideoCodec(1, 2, 1);
        codec.appendGradient(90, 0, 0);
        codec.appendGradient(95, 0, 0);
        codec.appendGradient(100, 0, 0);
        codec.encode();
        for (int block = 0; block < 4; block++) {
            vector("flat", codec, 1, block, 0, 0, 0, 0);
            vector("flat", codec, 2, block, 0, 0, 0, 0);
        }
        // Column stripes moved by one: every vy costs the same, so 0 it is.
        codec.reset();
        codec.appendGradient(0, 30, 0);
        codec.appendMoved(0, 1, 0, 0);
        codec.encode();
        vector("stripes", codec, 1, 3, -1, 0, 0, 0);
    }

    /** A chessboard and its negative match one step away on any side that lies inside the picture. */
    private static void tieGoesToTheFirstVisited() {
        int[] board = new int[64];
        int[] negative = new int[64];
        for (int place = 0; place < 64; place++) {
            boolean isWhite = (place % 8 + place / 8) % 2 == 0;
            board[place] = isWhite ? 200 : 100;
            negative[place] = isWhite ? 100 : 200;
        }
        for (int range = 1; range <= 2; range++) {
            GopVideoCodec codec = new GopVideoCodec(1, range, 0);
            Checks.append(codec, board);
            Checks.append(codec, negative);
            codec.encode();
            vector("right or down", codec, 1, 0, 1, 0, 0, 0);
            vector("left or down", codec, 1, 1, -1, 0, 0, 0);
            vector("up or right", codec, 1, 2, 0, -1, 0, 0);
            vector("up or left", codec, 1, 3, 0, -1, 0, 0);
        }
    }

    /** The cost comes before the length: a far exact match beats a near one that is 1 off. */
    private static void costComesFirst() {
        int[] reference = Checks.flat(101);
        int[] rows = Checks.flat(101);
        // Only (2, 2) brings the mark at (4, 4) to (2, 2).
        reference[8 * 4 + 4] = 102;
        rows[8 * 2 + 2] = 102;
        GopVideoCodec codec = new GopVideoCodec(1, 2, 0);
        Checks.append(codec, reference);
        Checks.append(codec, rows);
        codec.encode();
        vector("far and exact", codec, 1, 0, 2, 2, 0, 0);
    }

    /** With Qs = 1 and textures of their own on both sides, each mode and its vectors. */
    private static void listsOfTheModes() {
        GopVideoCodec codec = new GopVideoCodec(1, 2, 3);
        codec.appendTexture(5);
        codec.appendMoved(0, 1, 2, 0);
        codec.appendGradient(0, 0, 0);
        codec.appendGradient(0, 0, 0);
        codec.appendTexture(6);
        for (int place = 0; place < 64; place++) {
            int x = place % 8;
            int y = place / 8;
            int past = codec.pixel(0, 0, at(x - 1), at(y + 2));
            int next = codec.pixel(0, 4, at(x + 2), at(y - 1));
            codec.setPixel(2, x, y, next);
            codec.setPixel(3, x, y, (past + next + 1) >> 1);
        }
        codec.encode();
        for (int block = 0; block < 4; block++) {
            CHECKS.due("blockMode(1, " + block + ")", codec.blockMode(1, block), GopVideoCodec.MODE_FORWARD);
            vector("forward", codec, 1, block, -1, -2, 0, 0);
            CHECKS.due("blockMode(2, " + block + ")", codec.blockMode(2, block), GopVideoCodec.MODE_BACKWARD);
            vector("backward", codec, 2, block, 0, 0, 2, -1);
        }
        int both = 0;
        for (int block = 0; block < 4; block++) {
            if (codec.blockVector(3, block, 0, 0) == -1 && codec.blockVector(3, block, 0, 1) == 2
                    && codec.blockVector(3, block, 1, 0) == 2 && codec.blockVector(3, block, 1, 1) == -1) {
                both++;
                CHECKS.due("blockMode(3, " + block + ")", codec.blockMode(3, block), GopVideoCodec.MODE_BI);
                CHECKS.due("nonZero(3, " + block + ")", codec.nonZero(3, block), 0);
            }
        }
        CHECKS.due("do both searches find their half of the mean in some block?", both > 0, true);
    }

    private static int at(int v) {
        return v < 0 ? 0 : v > 7 ? 7 : v;
    }

    private static void wrongLists() {
        GopVideoCodec codec = Checks.codedExample(1);
        int[] before = Checks.allAnswers(codec);
        for (int wrong : new int[] {Integer.MIN_VALUE, -2, -1, 2, 3, Integer.MAX_VALUE}) {
            CHECKS.due("blockVector(1, 3, " + wrong + ", 0)", codec.blockVector(1, 3, wrong, 0), GopVideoCodec.NO_VECTOR);
            CHECKS.due("blockVector(1, 3, 0, " + wrong + ")", codec.blockVector(1, 3, 0, wrong), GopVideoCodec.NO_VECTOR);
            CHECKS.due("blockVector(0, 0, " + wrong + ", 1)", codec.blockVector(0, 0, wrong, 1), GopVideoCodec.NO_VECTOR);
            CHECKS.due("blockVector(0, 0, 1, " + wrong + ")", codec.blockVector(0, 0, 1, wrong), GopVideoCodec.NO_VECTOR);
        }
        CHECKS.unchanged("blockVector", before, codec);
    }

    public static void main(String[] args) {
        findsMoves();
        staysInRange();
        tieGoesToTheShortest();
        tieGoesToTheFirstVisited();
        costComesFirst();
        listsOfTheModes();
        wrongLists();
        for (int part = 0; part < 4; part++) {
            int list = part / 2;
            int comp = part % 2;
            BlockAnswers.checkRefusals(CHECKS, "blockVector, list " + list + ", comp " + comp,
                    GopVideoCodec.NO_VECTOR, (codec, frame, block) -> codec.blockVector(frame, block, list, comp));
        }
        CHECKS.finish();
    }
}
