/** What frameType and codingOrder have in common: one answer for each of 0..n-1 while coded, else NONE. */
final class PerFrameAnswers {
    interface Question {
        int of(GopVideoCodec codec, int k);
    }

    private final Checks checks;
    private final String name;
    private final Question question;

    PerFrameAnswers(Checks checks, String name, Question question) {
        this.checks = checks;
        this.name = name;
        this.question = question;
    }

    void check(int bFrames, int... want) {
        int n = want.length;
        GopVideoCodec codec = new GopVideoCodec(8, 0, bFrames);
        refused("of a new object", codec, 0);
        for (int k = 0; k < n; k++) {
            codec.appendTexture(k);
            refused("before encode()", codec, k);
        }
        codec.encode();
        for (int round = 0; round < 2; round++) {
            int[] before = Checks.allAnswers(codec);
            for (int k = 0; k < n; k++) {
                checks.due("M = " + bFrames + ", n = " + n + ": " + name + "(" + k + ")", question.of(codec, k), want[k]);
            }
            for (int k : new int[] {Integer.MIN_VALUE, -1, n, n + 1, 8, 9, Integer.MAX_VALUE}) {
                refused("with n = " + n, codec, k);
            }
            checks.unchanged(name, before, codec);
            Checks.decodeAll(codec);
        }
        codec.reset();
        refused("after reset()", codec, 0);
    }

    private void refused(String when, GopVideoCodec codec, int k) {
        checks.due(name + "(" + k + ") " + when, question.of(codec, k), GopVideoCodec.NONE);
    }
}
