/** A miniature group-of-pictures coder and decoder for 8x8 greyscale frames. */
public final class GopVideoCodec {
    public static final int MAX_FRAMES = 8;
    public static final int NONE = -1;
    public static final int NO_VECTOR = 127;
    public static final int PHASE_LOADING = 0;
    public static final int PHASE_CODED = 1;
    public static final int TYPE_I = 0;
    public static final int TYPE_P = 1;
    public static final int TYPE_B = 2;
    public static final int MODE_INTRA = 0;
    public static final int MODE_FORWARD = 1;
    public static final int MODE_BACKWARD = 2;
    public static final int MODE_BI = 3;
    public static final int PLANE_INPUT = 0;
    public static final int PLANE_RECON = 1;
    public static final int PLANE_OUTPUT = 2;
    public static final int STATUS_FRAMES = 0;
    public static final int STATUS_PHASE = 1;
    public static final int STATUS_DECODED = 2;
    public static final int STATUS_OUTPUT = 3;
    public static final int STATUS_QUANT = 4;
    public static final int STATUS_RANGE = 5;
    public static final int STATUS_BFRAMES = 6;

    private static final int MAX_QUANT = 64;
    private static final int MAX_RANGE = 2;
    private static final int MAX_B_FRAMES = 3;

    private static final int SIDE = 8;
    private static final int FRAME_PIXELS = SIDE * SIDE;
    private static final int ALL_PIXELS = MAX_FRAMES * FRAME_PIXELS;
    private static final int BLOCKS = 4;
    private static final int ALL_BLOCKS = MAX_FRAMES * BLOCKS;
    private static final int BLOCK_SIDE = 4;
    private static final int BLOCK_PIXELS = BLOCK_SIDE * BLOCK_SIDE;

    private static final int WHITE = 255;
    private static final int MIDDLE_GREY = 128;

    // A block's vectors lie in one row: forward vx, vy, then backward vx, vy.
    private static final int FORWARD_AT = 0;
    private static final int BACKWARD_AT = 2;
    private static final int VECTOR_PARTS = 4;
    private static final int ALL_VECTOR_PARTS = ALL_BLOCKS * VECTOR_PARTS;

    // Above every real cost, which is at most 16 * 255.
    private static final int NO_COST = 1000000;

    // Bit 4 * row + column is set where H has -1: a static array is not allowed.
    private static final int MINUS_SIGNS_OF_H = 0xA6C0;

    // All fields of the stream have a fixed width. A level lies in -4080..4080, a vector
    // part in -2..2; the bias makes them non-negative.
    private static final int INDEX_BITS = 3;
    private static final int TYPE_BITS = 2;
    private static final int QUANT_BITS = 6;
    private static final int MODE_BITS = 2;
    private static final int VECTOR_BITS = 3;
    private static final int VECTOR_BIAS = 2;
    private static final int LEVEL_BITS = 13;
    private static final int LEVEL_BIAS = 4096;
    private static final int BLOCK_BITS =
            MODE_BITS + VECTOR_PARTS * VECTOR_BITS + BLOCK_PIXELS * LEVEL_BITS;
    private static final int FRAME_BITS = INDEX_BITS + TYPE_BITS + QUANT_BITS + BLOCKS * BLOCK_BITS;
    private static final int STREAM_BITS = MAX_FRAMES * FRAME_BITS;

    private final int quant;
    private final int range;
    private final int bFrames;

    private int phase;
    private int frameCount;
    private int decodedCount;
    private int outputCount;

    // Frames lie by display index, each with its rows one after another.
    private final int[] input = new int[ALL_PIXELS];
    private final int[] recon = new int[ALL_PIXELS];
    private final int[] decoded = new int[ALL_PIXELS];

    private final int[] types = new int[MAX_FRAMES];
    private final int[] order = new int[MAX_FRAMES];
    private final int[] modes = new int[ALL_BLOCKS];
    private final int[] vectors = new int[ALL_VECTOR_PARTS];
    private final int[] nonZeros = new int[ALL_BLOCKS];

    private final boolean[] stream = new boolean[STREAM_BITS];
    private int writePlace;
    private int readPlace;

    // What the decoder remembers of the frames it has read: it may not ask the encoder.
    private final boolean[] isDecoded = new boolean[MAX_FRAMES];
    private int olderAnchor;
    private int newerAnchor;

    // The block at hand, of the encoder or of the decoder.
    private final int[] vector = new int[VECTOR_PARTS];
    private final int[] backward = new int[BLOCK_PIXELS];
    private final int[] prediction = new int[BLOCK_PIXELS];
    private final int[] residual = new int[BLOCK_PIXELS];
    private final int[] coefficients = new int[BLOCK_PIXELS];
    private final int[] levels = new int[BLOCK_PIXELS];

    public GopVideoCodec(int quant, int range, int bFrames) {
        this.quant = clamp(quant, 1, MAX_QUANT);
        this.range = clamp(range, 0, MAX_RANGE);
        this.bFrames = clamp(bFrames, 0, MAX_B_FRAMES);
        this.phase = PHASE_LOADING;
    }

    public void reset() {
        // Every answer looks at these first, so nothing older can be seen through them.
        phase = PHASE_LOADING;
        frameCount = 0;
        decodedCount = 0;
        outputCount = 0;
    }

    public int appendGradient(int base, int gx, int gy) {
        if (!canAppend()) {
            return NONE;
        }
        int start = frameCount * FRAME_PIXELS;
        for (int y = 0; y < SIDE; y++) {
            for (int x = 0; x < SIDE; x++) {
                input[start + y * SIDE + x] = clamp(base + gx * x + gy * y, 0, WHITE);
            }
        }
        return takeNewFrame();
    }

    public int appendTexture(int seed) {
        if (!canAppend()) {
            return NONE;
        }
        int start = frameCount * FRAME_PIXELS;
        int s = seed;
        for (int place = 0; place < FRAME_PIXELS; place++) {
            s = s * 1664525 + 1013904223;
            input[start + place] = s >>> 24;
        }
        return takeNewFrame();
    }

    public int appendMoved(int src, int dx, int dy, int delta) {
        if (!canAppend() || !isBelow(src, frameCount)) {
            return NONE;
        }
        int start = frameCount * FRAME_PIXELS;
        int from = src * FRAME_PIXELS;
        for (int y = 0; y < SIDE; y++) {
            int fromY = clamp(y - dy, 0, SIDE - 1);
            for (int x = 0; x < SIDE; x++) {
                int fromX = clamp(x - dx, 0, SIDE - 1);
                int value = input[from + fromY * SIDE + fromX] + delta;
                input[start + y * SIDE + x] = clamp(value, 0, WHITE);
            }
        }
        return takeNewFrame();
    }

    public boolean setPixel(int frame, int x, int y, int value) {
        if (phase != PHASE_LOADING || !isBelow(frame, frameCount)) {
            return false;
        }
        if (!isBelow(x, SIDE) || !isBelow(y, SIDE) || value < 0 || value > WHITE) {
            return false;
        }
        input[frame * FRAME_PIXELS + y * SIDE + x] = value;
        return true;
    }

    public int encode() {
        if (phase != PHASE_LOADING || frameCount == 0) {
            return NONE;
        }
        fixTypes();
        fixOrder();
        writePlace = 0;
        for (int pos = 0; pos < frameCount; pos++) {
            codeFrame(order[pos]);
        }
        startDecoder();
        phase = PHASE_CODED;
        return frameCount;
    }

    public int decodeNext() {
        if (phase != PHASE_CODED || decodedCount == frameCount) {
            return NONE;
        }
        int frame = decodeFrame();
        decodedCount++;
        release();
        return frame;
    }

    public int status(int kind) {
        switch (kind) {
            case STATUS_FRAMES:
                return frameCount;
            case STATUS_PHASE:
                return phase;
            case STATUS_DECODED:
                return decodedCount;
            case STATUS_OUTPUT:
                return outputCount;
            case STATUS_QUANT:
                return quant;
            case STATUS_RANGE:
                return range;
            case STATUS_BFRAMES:
                return bFrames;
            default:
                return NONE;
        }
    }

    public int frameType(int frame) {
        return isCoded(frame) ? types[frame] : NONE;
    }

    public int codingOrder(int pos) {
        return isCoded(pos) ? order[pos] : NONE;
    }

    public int blockMode(int frame, int block) {
        if (!isCoded(frame) || !isBelow(block, BLOCKS)) {
            return NONE;
        }
        return modes[frame * BLOCKS + block];
    }

    public int blockVector(int frame, int block, int list, int comp) {
        if (!isCoded(frame) || !isBelow(block, BLOCKS)) {
            return NO_VECTOR;
        }
        if (!isBelow(list, 2) || !isBelow(comp, 2)) {
            return NO_VECTOR;
        }
        int part = (list == 0 ? FORWARD_AT : BACKWARD_AT) + comp;
        return vectors[(frame * BLOCKS + block) * VECTOR_PARTS + part];
    }

    public int nonZero(int frame, int block) {
        if (!isCoded(frame) || !isBelow(block, BLOCKS)) {
            return NONE;
        }
        return nonZeros[frame * BLOCKS + block];
    }

    public int pixel(int plane, int frame, int x, int y) {
        if (!isBelow(x, SIDE) || !isBelow(y, SIDE)) {
            return NONE;
        }
        int place = y * SIDE + x;
        if (plane == PLANE_INPUT && isBelow(frame, frameCount)) {
            return input[frame * FRAME_PIXELS + place];
        }
        if (plane == PLANE_RECON && isCoded(frame)) {
            return recon[frame * FRAME_PIXELS + place];
        }
        // Release is in display order, so the number of a released frame is its display index.
        if (plane == PLANE_OUTPUT && isBelow(frame, outputCount)) {
            return decoded[frame * FRAME_PIXELS + place];
        }
        return NONE;
    }

    public int outputFrame(int k) {
        return isBelow(k, outputCount) ? k : NONE;
    }

    private boolean canAppend() {
        return phase == PHASE_LOADING && frameCount < MAX_FRAMES;
    }

    private int takeNewFrame() {
        int frame = frameCount;
        frameCount++;
        return frame;
    }

    private boolean isCoded(int frame) {
        return phase == PHASE_CODED && isBelow(frame, frameCount);
    }

    private void fixTypes() {
        types[0] = TYPE_I;
        for (int k = 1; k < frameCount; k++) {
            boolean isAnchor = k % (bFrames + 1) == 0 || k == frameCount - 1;
            types[k] = isAnchor ? TYPE_P : TYPE_B;
        }
    }

    private void fixOrder() {
        order[0] = 0;
        int pos = 1;
        int previous = 0;
        for (int anchor = 1; anchor < frameCount; anchor++) {
            if (types[anchor] != TYPE_B) {
                order[pos] = anchor;
                pos++;
                for (int between = previous + 1; between < anchor; between++) {
                    order[pos] = between;
                    pos++;
                }
                previous = anchor;
            }
        }
    }

    private int anchorBefore(int frame) {
        int anchor = 0;
        for (int k = 1; k < frame; k++) {
            if (types[k] != TYPE_B) {
                anchor = k;
            }
        }
        return anchor;
    }

    private int anchorAfter(int frame) {
        int anchor = frameCount - 1;
        for (int k = frameCount - 1; k > frame; k--) {
            if (types[k] != TYPE_B) {
                anchor = k;
            }
        }
        return anchor;
    }

    private void codeFrame(int frame) {
        int past = anchorBefore(frame);
        int next = anchorAfter(frame);
        writeBits(frame, INDEX_BITS);
        writeBits(types[frame], TYPE_BITS);
        writeBits(quant - 1, QUANT_BITS);
        for (int block = 0; block < BLOCKS; block++) {
            int mode = chooseMode(frame, block, past, next);
            dropUnusedVectors(mode);
            predict(recon, block, mode, past, next);
            quantise(frame, block);
            writeBlock(mode);
            rebuild(recon, frame, block, quant);
            keepBlockData(frame, block, mode);
        }
    }

    private int chooseMode(int frame, int block, int past, int next) {
        if (types[frame] == TYPE_I) {
            return MODE_INTRA;
        }
        int forwardCost = searchMotion(frame, block, past, FORWARD_AT);
        if (types[frame] == TYPE_P) {
            return MODE_FORWARD;
        }
        int backwardCost = searchMotion(frame, block, next, BACKWARD_AT);
        predict(recon, block, MODE_BI, past, next);
        int bothCost = costOfPrediction(frame, block);
        if (forwardCost <= backwardCost && forwardCost <= bothCost) {
            return MODE_FORWARD;
        }
        return backwardCost <= bothCost ? MODE_BACKWARD : MODE_BI;
    }

    private int searchMotion(int frame, int block, int reference, int vectorAt) {
        int bestCost = NO_COST;
        int bestLength = 0;
        for (int vy = -range; vy <= range; vy++) {
            for (int vx = -range; vx <= range; vx++) {
                fetchBlock(recon, reference, block, vx, vy, prediction);
                int cost = costOfPrediction(frame, block);
                int length = absolute(vx) + absolute(vy);
                if (cost < bestCost || (cost == bestCost && length < bestLength)) {
                    bestCost = cost;
                    bestLength = length;
                    vector[vectorAt] = vx;
                    vector[vectorAt + 1] = vy;
                }
            }
        }
        return bestCost;
    }

    private int costOfPrediction(int frame, int block) {
        int cost = 0;
        for (int k = 0; k < BLOCK_PIXELS; k++) {
            int place = placeInFrames(frame, block, k);
            cost += absolute(input[place] - prediction[k]);
        }
        return cost;
    }

    private void dropUnusedVectors(int mode) {
        if (mode != MODE_FORWARD && mode != MODE_BI) {
            vector[FORWARD_AT] = 0;
            vector[FORWARD_AT + 1] = 0;
        }
        if (mode != MODE_BACKWARD && mode != MODE_BI) {
            vector[BACKWARD_AT] = 0;
            vector[BACKWARD_AT + 1] = 0;
        }
    }

    // Both sides predict and rebuild with the same code, on pictures of their own, so that
    // the decoder cannot drift from the recon.
    private void predict(int[] pictures, int block, int mode, int past, int next) {
        if (mode == MODE_INTRA) {
            for (int k = 0; k < BLOCK_PIXELS; k++) {
                prediction[k] = MIDDLE_GREY;
            }
        } else if (mode == MODE_BACKWARD) {
            fetchBlock(pictures, next, block, vector[BACKWARD_AT], vector[BACKWARD_AT + 1], prediction);
        } else {
            fetchBlock(pictures, past, block, vector[FORWARD_AT], vector[FORWARD_AT + 1], prediction);
        }
        if (mode == MODE_BI) {
            fetchBlock(pictures, next, block, vector[BACKWARD_AT], vector[BACKWARD_AT + 1], backward);
            for (int k = 0; k < BLOCK_PIXELS; k++) {
                prediction[k] = (prediction[k] + backward[k] + 1) >> 1;
            }
        }
    }

    private static void fetchBlock(int[] pictures, int frame, int block, int vx, int vy, int[] target) {
        int left = block % 2 * BLOCK_SIDE;
        int top = block / 2 * BLOCK_SIDE;
        for (int i = 0; i < BLOCK_SIDE; i++) {
            int y = clamp(top + i + vy, 0, SIDE - 1);
            for (int j = 0; j < BLOCK_SIDE; j++) {
                int x = clamp(left + j + vx, 0, SIDE - 1);
                target[i * BLOCK_SIDE + j] = pictures[frame * FRAME_PIXELS + y * SIDE + x];
            }
        }
    }

    private void quantise(int frame, int block) {
        for (int k = 0; k < BLOCK_PIXELS; k++) {
            int place = placeInFrames(frame, block, k);
            residual[k] = input[place] - prediction[k];
        }
        transform(residual, coefficients);
        for (int k = 0; k < BLOCK_PIXELS; k++) {
            int size = (absolute(coefficients[k]) + quant / 2) / quant;
            levels[k] = coefficients[k] < 0 ? -size : size;
        }
    }

    private void rebuild(int[] pictures, int frame, int block, int step) {
        for (int k = 0; k < BLOCK_PIXELS; k++) {
            coefficients[k] = levels[k] * step;
        }
        transform(coefficients, residual);
        for (int k = 0; k < BLOCK_PIXELS; k++) {
            int place = placeInFrames(frame, block, k);
            int difference = (residual[k] + 8) >> 4;
            pictures[place] = clamp(prediction[k] + difference, 0, WHITE);
        }
    }

    // H is its own transpose, so one sum serves for the way there and the way back.
    private static void transform(int[] from, int[] to) {
        for (int u = 0; u < BLOCK_SIDE; u++) {
            for (int v = 0; v < BLOCK_SIDE; v++) {
                int sum = 0;
                for (int i = 0; i < BLOCK_SIDE; i++) {
                    for (int j = 0; j < BLOCK_SIDE; j++) {
                        sum += signOfH(u, i) * from[i * BLOCK_SIDE + j] * signOfH(v, j);
                    }
                }
                to[u * BLOCK_SIDE + v] = sum;
            }
        }
    }

    private static int signOfH(int row, int column) {
        int isMinus = (MINUS_SIGNS_OF_H >> (row * BLOCK_SIDE + column)) & 1;
        return 1 - 2 * isMinus;
    }

    private void keepBlockData(int frame, int block, int mode) {
        int at = frame * BLOCKS + block;
        modes[at] = mode;
        for (int part = 0; part < VECTOR_PARTS; part++) {
            vectors[at * VECTOR_PARTS + part] = vector[part];
        }
        int count = 0;
        for (int k = 0; k < BLOCK_PIXELS; k++) {
            if (levels[k] != 0) {
                count++;
            }
        }
        nonZeros[at] = count;
    }

    private void writeBlock(int mode) {
        writeBits(mode, MODE_BITS);
        for (int part = 0; part < VECTOR_PARTS; part++) {
            writeBits(vector[part] + VECTOR_BIAS, VECTOR_BITS);
        }
        for (int k = 0; k < BLOCK_PIXELS; k++) {
            writeBits(levels[k] + LEVEL_BIAS, LEVEL_BITS);
        }
    }

    private int readBlock() {
        int mode = readBits(MODE_BITS);
        for (int part = 0; part < VECTOR_PARTS; part++) {
            vector[part] = readBits(VECTOR_BITS) - VECTOR_BIAS;
        }
        for (int k = 0; k < BLOCK_PIXELS; k++) {
            levels[k] = readBits(LEVEL_BITS) - LEVEL_BIAS;
        }
        return mode;
    }

    // The stream has room for MAX_FRAMES frames to the bit; its end is looked at all the
    // same, here and in readBits, so that no call can throw.
    private void writeBits(int value, int count) {
        for (int bit = count - 1; bit >= 0 && writePlace < STREAM_BITS; bit--) {
            stream[writePlace] = ((value >> bit) & 1) == 1;
            writePlace++;
        }
    }

    private int readBits(int count) {
        int value = 0;
        for (int bit = 0; bit < count && readPlace < STREAM_BITS; bit++) {
            value = value * 2 + (stream[readPlace] ? 1 : 0);
            readPlace++;
        }
        return value;
    }

    private void startDecoder() {
        decodedCount = 0;
        outputCount = 0;
        readPlace = 0;
        olderAnchor = 0;
        newerAnchor = 0;
        for (int frame = 0; frame < MAX_FRAMES; frame++) {
            isDecoded[frame] = false;
        }
    }

    private int decodeFrame() {
        int frame = readBits(INDEX_BITS);
        int type = readBits(TYPE_BITS);
        int step = readBits(QUANT_BITS) + 1;
        // An anchor comes before the B frames that it closes, so a P frame looks back to the
        // newest anchor and a B frame to the one before that.
        int past = type == TYPE_B ? olderAnchor : newerAnchor;
        for (int block = 0; block < BLOCKS; block++) {
            int mode = readBlock();
            predict(decoded, block, mode, past, newerAnchor);
            rebuild(decoded, frame, block, step);
        }
        if (type != TYPE_B) {
            olderAnchor = newerAnchor;
            newerAnchor = frame;
        }
        isDecoded[frame] = true;
        return frame;
    }

    private void release() {
        while (outputCount < frameCount && isDecoded[outputCount]) {
            outputCount++;
        }
    }

    private static int placeInFrames(int frame, int block, int k) {
        int x = block % 2 * BLOCK_SIDE + k % BLOCK_SIDE;
        int y = block / 2 * BLOCK_SIDE + k / BLOCK_SIDE;
        return frame * FRAME_PIXELS + y * SIDE + x;
    }

    private static boolean isBelow(int value, int count) {
        return value >= 0 && value < count;
    }

    private static int clamp(int value, int least, int greatest) {
        if (value < least) {
            return least;
        }
        return value > greatest ? greatest : value;
    }

    private static int absolute(int value) {
        return value < 0 ? -value : value;
    }
}
