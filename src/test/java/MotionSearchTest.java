/** Promise 7, "Motion search": which candidates there are and which one is chosen. */
public final class MotionSearchTest {
    private static final Checks CHECKS = new Checks();

    private static void vector(String name, GopVideoCodec codec, int block, int vx, int vy) {
        CHECKS.due(name + ": blockVector(1, " + block + ", 0, 0)", codec.blockVector(1, block, 0, 0), vx);
        CHECKS.due(name + ": blockVector(1, " + block + ", 0, 1)", codec.blockVector(1, block, 0, 1), vy);
    }

    /** Two frames, coded without loss, so that the reference is the first as it stands. */
    private static GopVideoCodec coded(int range, int[] reference, int[] rows) {
        return Checks.coded(new GopVideoCodec(1, range, 0), reference, rows);
    }

    private static GopVideoCodec movedTexture(int range, int dx, int dy) {
        GopVideoCodec codec = new GopVideoCodec(1, range, 0);
        codec.appendTexture(77);
        codec.appendMoved(0, dx, dy, 0);
        codec.encode();
        return codec;
    }

    /** A copy moved by (dx, dy) is found again at (-dx, -dy), the corners of the range among them. */
    private static void everyVectorIsACandidate() {
        for (int range = 0; range <= 2; range++) {
            for (int dy = -range; dy <= range; dy++) {
                for (int dx = -range; dx <= range; dx++) {
                    GopVideoCodec codec = movedTexture(range, dx, dy);
                    for (int block = 0; block < 4; block++) {
                        vector("R = " + range + ", moved " + dx + ", " + dy, codec, block, -dx, -dy);
                    }
                }
            }
        }
    }

    private static void noVectorBeyondTheRange() {
        int[][] moves = {{2, 0}, {-2, 0}, {0, 2}, {0, -2}, {2, 2}, {3, -3}, {-3, 3}, {3, 0}, {0, 3}};
        for (int range = 0; range <= 2; range++) {
            for (int[] move : moves) {
                GopVideoCodec codec = movedTexture(range, move[0], move[1]);
                for (int at = 0; at < 8; at++) {
                    int part = codec.blockVector(1, at / 2, 0, at % 2);
                    CHECKS.due("R = " + range + ": is " + part + " in range?", part >= -range && part <= range, true);
                }
            }
        }
    }

    /** The copy is clamped at the rim just as the candidate is, so nothing is left to code there. */
    private static void candidatesAreClampedAtTheRim() {
        for (int dy = -2; dy <= 2; dy++) {
            for (int dx = -2; dx <= 2; dx++) {
                GopVideoCodec codec = movedTexture(2, dx, dy);
                for (int block = 0; block < 4; block++) {
                    CHECKS.due("moved " + dx + ", " + dy + ": nonZero(1, " + block + ")", codec.nonZero(1, block), 0);
                }
            }
        }
    }

    /** A far exact match beats a near one that is off by 1 in one pixel. */
    private static void theLeastCostIsChosen() {
        int[] reference = Checks.flat(101);
        int[] rows = Checks.flat(101);
        // Only (2, 2) brings the mark at (4, 4) to (2, 2).
        reference[8 * 4 + 4] = 102;
        rows[8 * 2 + 2] = 102;
        vector("far and exact", coded(2, reference, rows), 0, 2, 2);
        // The same below the shade: a difference counts by its size, not by its sign.
        reference[8 * 4 + 4] = 100;
        rows[8 * 2 + 2] = 100;
        vector("far and exact, darker", coded(2, reference, rows), 0, 2, 2);
    }

    /** All 16 pixels count: a mark at any one of them is enough to tell the exact match. */
    private static void theCostIsOfAll16Pixels() {
        for (int place = 0; place < 16; place++) {
            int[] reference = Checks.flat(101);
            int[] rows = Checks.flat(101);
            int x = place % 4;
            int y = place / 4;
            reference[8 * (y + 1) + x + 2] = 109;
            rows[8 * y + x] = 109;
            GopVideoCodec codec = coded(2, reference, rows);
            vector("mark at (" + x + ", " + y + ")", codec, 0, 2, 1);
        }
    }

    /** All candidates cost the same: the shortest vector, though (-2, -2) is visited first. */
    private static void aTieGoesToTheShortest() {
        for (int range = 0; range <= 2; range++) {
            for (int shade : new int[] {0, 90, 255}) {
                GopVideoCodec codec = coded(range, Checks.flat(shade), Checks.flat(95));
                for (int block = 0; block < 4; block++) {
                    vector("flat", codec, block, 0, 0);
                }
            }
        }
        // Stripes moved by one: every step along them costs the same, so 0 it is.
        GopVideoCodec codec = new GopVideoCodec(1, 2, 0);
        codec.appendGradient(0, 30, 0);
        codec.appendMoved(0, 1, 0, 0);
        codec.encode();
        vector("columns", codec, 3, -1, 0);
        codec.reset();
        codec.appendGradient(0, 0, 30);
        codec.appendMoved(0, 0, -1, 0);
        codec.encode();
        vector("rows", codec, 0, 0, 1);
    }

    /** The reference matches block 2 at (0, -2) and at (1, 1): both are 2 long, though (1, 1) is nearer. */
    private static void theLengthIsTheSum() {
        GopVideoCodec texture = new GopVideoCodec(1, 0, 0);
        texture.appendTexture(4);
        int[] reference = Checks.picture(texture, GopVideoCodec.PLANE_INPUT, 0);
        int[] rows = Checks.flat(0);
        int[][] sameRows = {{7, 4}, {7, 5}, {5, 2}, {6, 3}};
        for (int[] pair : sameRows) {
            for (int x = 0; x < 4; x++) {
                reference[8 * pair[1] + x] = reference[8 * pair[0] + x + 1];
            }
        }
        for (int place = 0; place < 16; place++) {
            int x = place % 4;
            int y = 4 + place / 4;
            rows[8 * y + x] = reference[8 * (y - 2) + x];
            CHECKS.due("does (1, 1) match too?", reference[8 * Math.min(7, y + 1) + x + 1], rows[8 * y + x]);
        }
        vector("(0, -2) or (1, 1)", coded(2, reference, rows), 2, 0, -2);
    }

    /** A chessboard and its negative match one step away on any side that lies inside the picture. */
    private static void aTieGoesToTheFirstVisited() {
        int[] board = new int[64];
        int[] negative = new int[64];
        for (int place = 0; place < 64; place++) {
            boolean isWhite = (place % 8 + place / 8) % 2 == 0;
            board[place] = isWhite ? 200 : 100;
            negative[place] = isWhite ? 100 : 200;
        }
        for (int range = 1; range <= 2; range++) {
            GopVideoCodec codec = coded(range, board, negative);
            vector("right or down", codec, 0, 1, 0);
            vector("left or down", codec, 1, -1, 0);
            vector("up or right", codec, 2, 0, -1);
            vector("up or left", codec, 3, 0, -1);
        }
    }

    /** Marks of 1 and 2 on the rim of block 0: a step either way costs 2, no step costs 3. */
    private static void aTieOfOppositeSteps() {
        int[] columns = Checks.flat(100);
        columns[8 * 1 + 0] = 101;
        columns[8 * 1 + 3] = 102;
        vector("left or right", coded(1, columns, Checks.flat(100)), 0, -1, 0);
        int[] rows = Checks.flat(100);
        rows[8 * 0 + 1] = 101;
        rows[8 * 3 + 1] = 102;
        vector("up or down", coded(1, rows, Checks.flat(100)), 0, 0, -1);
    }

    private static void withoutRangeOnlyTheNullVector() {
        for (int dy = -2; dy <= 2; dy++) {
            for (int dx = -2; dx <= 2; dx++) {
                GopVideoCodec codec = movedTexture(0, dx, dy);
                for (int block = 0; block < 4; block++) {
                    vector("R = 0, moved " + dx + ", " + dy, codec, block, 0, 0);
                }
            }
        }
    }

    public static void main(String[] args) {
        CHECKS.sentence("every vector is a candidate, from -R to R", MotionSearchTest::everyVectorIsACandidate);
        CHECKS.sentence("from -R to R and no further", MotionSearchTest::noVectorBeyondTheRange);
        CHECKS.sentence("q(x, y) = S(cl(x + vx), cl(y + vy))", MotionSearchTest::candidatesAreClampedAtTheRim);
        CHECKS.sentence("the candidate chosen has the least SAD", MotionSearchTest::theLeastCostIsChosen);
        CHECKS.sentence("SAD is the sum over the 16 block pixels", MotionSearchTest::theCostIsOfAll16Pixels);
        CHECKS.sentence("among those, the least |vx| + |vy|", MotionSearchTest::aTieGoesToTheShortest);
        CHECKS.sentence("|vx| + |vy| is the sum of both", MotionSearchTest::theLengthIsTheSum);
        CHECKS.sentence("among those, the first one visited", MotionSearchTest::aTieGoesToTheFirstVisited);
        CHECKS.sentence("vy and vx ascending", MotionSearchTest::aTieOfOppositeSteps);
        CHECKS.sentence("with R = 0 the only candidate is (0, 0)", MotionSearchTest::withoutRangeOnlyTheNullVector);
        CHECKS.finish();
    }
}
