import java.util.ArrayList;
import java.util.List;

/**
 * The promises written down a second time, straight from the document and with nothing
 * shared with the program, so that long runs of calls can be judged.
 */
final class ReferenceCodec {
    private static final int[][] H = {{1, 1, 1, 1}, {1, 1, -1, -1}, {1, -1, -1, 1}, {1, -1, 1, -1}};

    private record Match(int vx, int vy, int[][] prediction, int cost) { }

    private final int qs;
    private final int r;
    private final int m;
    private boolean coded = false;
    private int decodedCount = 0;
    // Pictures are [y][x].
    private final List<int[][]> inputs = new ArrayList<>();
    private final List<Integer> order = new ArrayList<>();
    private int[][][] recons;
    private int[][] modes;
    private int[][][][] vectors;
    private int[][] nonZeros;

    ReferenceCodec(int quant, int range, int bFrames) {
        qs = Math.max(1, Math.min(64, quant));
        r = Math.max(0, Math.min(2, range));
        m = Math.max(0, Math.min(3, bFrames));
    }

    void reset() {
        coded = false;
        decodedCount = 0;
        inputs.clear();
        order.clear();
    }

    int appendGradient(int base, int gx, int gy) {
        if (coded || inputs.size() == 8) {
            return -1;
        }
        int[][] frame = new int[8][8];
        for (int y = 0; y < 8; y++) {
            for (int x = 0; x < 8; x++) {
                frame[y][x] = c255(base + gx * x + gy * y);
            }
        }
        inputs.add(frame);
        return inputs.size() - 1;
    }

    int appendTexture(int seed) {
        if (coded || inputs.size() == 8) {
            return -1;
        }
        int[][] frame = new int[8][8];
        int s = seed;
        for (int y = 0; y < 8; y++) {
            for (int x = 0; x < 8; x++) {
                s = s * 1664525 + 1013904223;
                frame[y][x] = s >>> 24;
            }
        }
        inputs.add(frame);
        return inputs.size() - 1;
    }

    int appendMoved(int src, int dx, int dy, int delta) {
        if (coded || inputs.size() == 8 || src < 0 || src >= inputs.size()) {
            return -1;
        }
        int[][] frame = new int[8][8];
        for (int y = 0; y < 8; y++) {
            for (int x = 0; x < 8; x++) {
                frame[y][x] = c255(inputs.get(src)[cl(y - dy)][cl(x - dx)] + delta);
            }
        }
        inputs.add(frame);
        return inputs.size() - 1;
    }

    boolean setPixel(int frame, int x, int y, int value) {
        boolean refused = coded || frame < 0 || frame >= inputs.size()
                || x < 0 || x > 7 || y < 0 || y > 7 || value < 0 || value > 255;
        if (!refused) {
            inputs.get(frame)[y][x] = value;
        }
        return !refused;
    }

    int encode() {
        int n = inputs.size();
        if (coded || n == 0) {
            return -1;
        }
        order.add(0);
        for (int a = 1; a < n; a++) {
            if (typeOf(a) == 1) {
                order.add(a);
                for (int k = 1; k < a; k++) {
                    if (!order.contains(k)) {
                        order.add(k);
                    }
                }
            }
        }
        recons = new int[n][8][8];
        modes = new int[n][4];
        vectors = new int[n][4][2][2];
        nonZeros = new int[n][4];
        for (int frame : order) {
            for (int block = 0; block < 4; block++) {
                codeResidual(frame, block, predictionOf(frame, block));
            }
        }
        coded = true;
        decodedCount = 0;
        return n;
    }

    private int typeOf(int k) {
        if (k == 0) {
            return 0;
        }
        return k % (m + 1) == 0 || k == inputs.size() - 1 ? 1 : 2;
    }

    private int[][] predictionOf(int frame, int block) {
        int[][] flat = new int[8][8];
        for (int[] row : flat) {
            java.util.Arrays.fill(row, 128);
        }
        if (typeOf(frame) == 0) {
            modes[frame][block] = 0;
            return flat;
        }
        int below = frame - 1;
        while (typeOf(below) == 2) {
            below--;
        }
        Match forward = search(frame, block, recons[below]);
        if (typeOf(frame) == 1) {
            return take(frame, block, 1, forward, null, forward.prediction());
        }
        int above = frame + 1;
        while (typeOf(above) == 2) {
            above++;
        }
        Match backward = search(frame, block, recons[above]);
        int[][] both = new int[8][8];
        for (int y = 0; y < 8; y++) {
            for (int x = 0; x < 8; x++) {
                both[y][x] = (forward.prediction()[y][x] + backward.prediction()[y][x] + 1) >> 1;
            }
        }
        int bothCost = sad(frame, block, both);
        int least = Math.min(Math.min(forward.cost(), backward.cost()), bothCost);
        if (forward.cost() == least) {
            return take(frame, block, 1, forward, null, forward.prediction());
        }
        if (backward.cost() == least) {
            return take(frame, block, 2, null, backward, backward.prediction());
        }
        return take(frame, block, 3, forward, backward, both);
    }

    private int[][] take(int frame, int block, int mode, Match list0, Match list1, int[][] prediction) {
        modes[frame][block] = mode;
        if (list0 != null) {
            vectors[frame][block][0] = new int[] {list0.vx(), list0.vy()};
        }
        if (list1 != null) {
            vectors[frame][block][1] = new int[] {list1.vx(), list1.vy()};
        }
        return prediction;
    }

    private Match search(int frame, int block, int[][] picture) {
        List<Match> candidates = new ArrayList<>();
        for (int vy = -r; vy <= r; vy++) {
            for (int vx = -r; vx <= r; vx++) {
                int[][] q = new int[8][8];
                for (int y = 0; y < 8; y++) {
                    for (int x = 0; x < 8; x++) {
                        q[y][x] = picture[cl(y + vy)][cl(x + vx)];
                    }
                }
                candidates.add(new Match(vx, vy, q, sad(frame, block, q)));
            }
        }
        int leastCost = candidates.stream().mapToInt(Match::cost).min().getAsInt();
        candidates.removeIf(c -> c.cost() != leastCost);
        int leastLength = candidates.stream().mapToInt(ReferenceCodec::length).min().getAsInt();
        candidates.removeIf(c -> length(c) != leastLength);
        return candidates.get(0);
    }

    private static int length(Match match) {
        return Math.abs(match.vx()) + Math.abs(match.vy());
    }

    private int sad(int frame, int block, int[][] q) {
        int sum = 0;
        for (int y = 4 * (block / 2); y < 4 * (block / 2) + 4; y++) {
            for (int x = 4 * (block % 2); x < 4 * (block % 2) + 4; x++) {
                sum += Math.abs(inputs.get(frame)[y][x] - q[y][x]);
            }
        }
        return sum;
    }

    private void codeResidual(int frame, int block, int[][] p) {
        int x0 = 4 * (block % 2);
        int y0 = 4 * (block / 2);
        int[][] z = new int[4][4];
        for (int u = 0; u < 4; u++) {
            for (int v = 0; v < 4; v++) {
                int sum = 0;
                for (int i = 0; i < 4; i++) {
                    for (int j = 0; j < 4; j++) {
                        int difference = inputs.get(frame)[y0 + i][x0 + j] - p[y0 + i][x0 + j];
                        sum += H[u][i] * difference * H[v][j];
                    }
                }
                int level = (Math.abs(sum) + qs / 2) / qs * Integer.signum(sum);
                nonZeros[frame][block] += level != 0 ? 1 : 0;
                z[u][v] = level * qs;
            }
        }
        for (int i = 0; i < 4; i++) {
            for (int j = 0; j < 4; j++) {
                int sum = 0;
                for (int u = 0; u < 4; u++) {
                    for (int v = 0; v < 4; v++) {
                        sum += H[u][i] * z[u][v] * H[v][j];
                    }
                }
                recons[frame][y0 + i][x0 + j] = c255(p[y0 + i][x0 + j] + Math.floorDiv(sum + 8, 16));
            }
        }
    }

    int decodeNext() {
        if (!coded || decodedCount == inputs.size()) {
            return -1;
        }
        decodedCount++;
        return order.get(decodedCount - 1);
    }

    private int outputCount() {
        int count = 0;
        while (coded && count < inputs.size() && order.subList(0, decodedCount).contains(count)) {
            count++;
        }
        return count;
    }

    int status(int kind) {
        int[] answers = {inputs.size(), coded ? 1 : 0, decodedCount, outputCount(), qs, r, m};
        return kind < 0 || kind > 6 ? -1 : answers[kind];
    }

    private boolean isCoded(int frame, int block) {
        return coded && frame >= 0 && frame < inputs.size() && block >= 0 && block < 4;
    }

    int frameType(int frame) {
        return isCoded(frame, 0) ? typeOf(frame) : -1;
    }

    int codingOrder(int pos) {
        return isCoded(pos, 0) ? order.get(pos) : -1;
    }

    int blockMode(int frame, int block) {
        return isCoded(frame, block) ? modes[frame][block] : -1;
    }

    int blockVector(int frame, int block, int list, int comp) {
        if (!isCoded(frame, block) || list < 0 || list > 1 || comp < 0 || comp > 1) {
            return 127;
        }
        return vectors[frame][block][list][comp];
    }

    int nonZero(int frame, int block) {
        return isCoded(frame, block) ? nonZeros[frame][block] : -1;
    }

    int pixel(int plane, int frame, int x, int y) {
        if (x < 0 || x > 7 || y < 0 || y > 7 || frame < 0) {
            return -1;
        }
        if (plane == 0 && frame < inputs.size()) {
            return inputs.get(frame)[y][x];
        }
        if (plane == 1 && coded && frame < inputs.size() || plane == 2 && frame < outputCount()) {
            return recons[frame][y][x];
        }
        return -1;
    }

    int outputFrame(int k) {
        return k >= 0 && k < outputCount() ? k : -1;
    }

    private static int cl(int v) {
        return Math.max(0, Math.min(7, v));
    }

    private static int c255(int v) {
        return Math.max(0, Math.min(255, v));
    }
}
