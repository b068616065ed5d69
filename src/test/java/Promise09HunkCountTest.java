public final class Promise09HunkCountTest {
    private static final int[] NONE = {};

    public static void main(String[] args) {
        PatienceDiff x = Check.filled(0, Check.lines(1, 2, 3), Check.lines(4, 1, 5, 2, 6, 3, 7), NONE);
        Check.due("without a diff", x.hunkCount(), PatienceDiff.REFUSED);
        x.diff();
        Check.due("context 0", x.hunkCount(), 4);
        x.addLine(PatienceDiff.SEQ_BASE, 1);
        Check.due("after a base line", x.hunkCount(), 4);
        Check.due("apply(0) fails", x.apply(0), -2 - 2);
        Check.due("after a failed apply", x.hunkCount(), 4);
        x.addLine(PatienceDiff.SEQ_NEW, 1);
        Check.due("after a B line", x.hunkCount(), PatienceDiff.REFUSED);
        Check.due("both empty", Check.diffed(3, NONE, NONE, NONE).hunkCount(), 0);
        Check.due("A equals B", Check.diffed(3, Check.lines(1), Check.lines(1), NONE).hunkCount(), 0);
        Check.due("A empty", Check.diffed(3, NONE, Check.lines(1), NONE).hunkCount(), 1);
        Check.due("B empty", Check.diffed(3, Check.lines(1), NONE, NONE).hunkCount(), 1);
        mostHunks();
        Check.end();
    }

    // 22 inserts or deletes around 21 kept lines: no two texts of 32 lines give more.
    private static void mostHunks() {
        PatienceDiff x = new PatienceDiff(32, 0);
        for (int t = 0; t < 22; t++) {
            x.addLine(t % 2 == 0 ? PatienceDiff.SEQ_OLD : PatienceDiff.SEQ_NEW, 100 + t);
            if (t < 21) {
                x.addLine(PatienceDiff.SEQ_OLD, t);
                x.addLine(PatienceDiff.SEQ_NEW, t);
            }
        }
        Check.due("length(0)", x.length(0), 32);
        Check.due("length(1)", x.length(1), 32);
        Check.due("diff()", x.diff(), 21);
        Check.due("the most hunks", x.hunkCount(), 22);
        Check.hunk("the last hunk", x, 21, 32, 0, 31, 1, 1, -1);
    }
}
