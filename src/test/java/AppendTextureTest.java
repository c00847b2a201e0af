/** Promise 4. */
public final class AppendTextureTest {
    private static final Checks CHECKS = new Checks();

    /** The pixels from the top left, row by row. */
    private static void begins(int seed, int... pixels) {
        GopVideoCodec codec = new GopVideoCodec(1, 0, 0);
        String call = "appendTexture(" + seed + ")";
        CHECKS.due(call, codec.appendTexture(seed), 0);
        for (int k = 0; k < pixels.length; k++) {
            CHECKS.due(call + " pixel(0, 0, " + k % 8 + ", " + k / 8 + ")", codec.pixel(0, 0, k % 8, k / 8), pixels[k]);
        }
    }

    private static int[] rowsOf(int seed) {
        int[] rows = new int[64];
        long s = seed & 0xFFFFFFFFL;
        for (int place = 0; place < 64; place++) {
            s = (s * 1664525L + 1013904223L) % 4294967296L;
            rows[place] = (int) (s / 16777216L);
        }
        return rows;
    }

    public static void main(String[] args) {
        // The numbers that this well-known generator is published with, less their lower 24 bits.
        begins(0, 0x3C, 0x47, 0xD1, 0xAA, 0x62, 0x9F, 0x57, 0xA3, 0x81, 0x94, 0xCB);
        // 1664525 + 1013904223 = 0x3C88596C; 1013904223 - 1664525 = 0x3C558D52.
        begins(1, 0x3C);
        begins(-1, 0x3C);
        // An odd factor carries the top bit on: 0x3C6EF35F with the top bit turned.
        begins(Integer.MIN_VALUE, 0xBC, 0xC7, 0x51);

        for (int seed : new int[] {0, 1, 7, -1, 12345, Integer.MIN_VALUE, Integer.MAX_VALUE}) {
            GopVideoCodec codec = new GopVideoCodec(1, 0, 0);
            codec.appendGradient(0, 0, 0);
            CHECKS.due("appendTexture(" + seed + ")", codec.appendTexture(seed), 1);
            CHECKS.pixels("appendTexture(" + seed + ")", codec, GopVideoCodec.PLANE_INPUT, 1, rowsOf(seed));
        }

        AppendRefusals.check(CHECKS, "appendTexture(5)", c -> c.appendTexture(5));
        CHECKS.finish();
    }
}
