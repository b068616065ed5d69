// Each method below that stands under a sentence of the document is that sentence's test.
public final class Promise09HunkCountTest {
    private static final int[] NONE = {};

    public static void main(String[] args) {
        countsTheHunks();
        noneIfAEqualsB();
        noneIfBothAreEmpty();
        refusedWithoutADiff();
        nothingChanges();
        Check.end();
    }

    // "hunkCount() answers the number of hunks"
    private static void countsTheHunks() {
        Check.due("A empty", Check.diffed(3, NONE, Check.lines(1), NONE).hunkCount(), 1);
        Check.due("B empty", Check.diffed(3, Check.lines(1), NONE, NONE).hunkCount(), 1);
        Check.due("four inserts, context 0",
            Check.diffed(0, Check.lines(1, 2, 3), Check.lines(4, 1, 5, 2, 6, 3, 7), NONE).hunkCount(), 4);
        Check.due("four inserts, context 1",
            Check.diffed(1, Check.lines(1, 2, 3), Check.lines(4, 1, 5, 2, 6, 3, 7), NONE).hunkCount(), 1);
        mostHunks();
    }

    // 22 inserts or deletes around 21 kept lines: no two texts of 32 lines give more.
    private static void mostHunks() {
        PatienceDiff x = new PatienceDiff(32, 0);
        for (int t = 0; t < 22; t++) {
            x.addLine(t % 2 == 0 ? PatienceDiff.SEQ_OLD : PatienceDiff.SEQ_NEW, 100 + t);
            if (t < 21) {
                x.addLine(PatienceDiff.SEQ_OLD, t);
                x.addLine(PatienceDiff.SEQ_NEW, t);
            }
        }
        Check.due("length(0)", x.length(PatienceDiff.SEQ_OLD), 32);
        Check.due("length(1)", x.length(PatienceDiff.SEQ_NEW), 32);
        Check.due("diff()", x.diff(), 21);
        Check.due("the most hunks", x.hunkCount(), 22);
        Check.hunk("the last hunk", x, 21, 32, 0, 31, 1, 1, -1);
    }

    // "(0 if A equals B"
    private static void noneIfAEqualsB() {
        for (int context = 0; context <= 3; context++) {
            for (int length = 1; length <= 32; length++) {
                PatienceDiff x = Check.diffed(context, Check.run(length, 5), Check.run(length, 5), NONE);
                Check.due(length + " equal lines: hunkCount()", x.hunkCount(), 0);
            }
        }
    }

    // "including when both are empty)"
    private static void noneIfBothAreEmpty() {
        for (int context = 0; context <= 3; context++) {
            Check.due("both empty", Check.diffed(context, NONE, NONE, NONE).hunkCount(), 0);
            Check.due("both empty, base not", Check.diffed(context, NONE, NONE, Check.lines(1)).hunkCount(), 0);
        }
        PatienceDiff x = Check.diffed(0, Check.lines(1), Check.lines(2), NONE);
        Check.due("one hunk", x.hunkCount(), 1);
        x.clear();
        Check.due("diff() after clear", x.diff(), 0);
        Check.due("both empty after clear", x.hunkCount(), 0);
    }

    // "or REFUSED if no diff is present"
    private static void refusedWithoutADiff() {
        PatienceDiff x = new PatienceDiff(32, 0);
        Check.due("fresh", x.hunkCount(), PatienceDiff.REFUSED);
        Check.feed(x, PatienceDiff.SEQ_OLD, 1, 2);
        Check.feed(x, PatienceDiff.SEQ_NEW, 1);
        Check.due("never diffed", x.hunkCount(), PatienceDiff.REFUSED);
        Check.due("diff()", x.diff(), 1);
        Check.due("diffed", x.hunkCount(), 1);
        Check.due("apply(0) fails", x.apply(0), PatienceDiff.APPLY_FAIL_BASE);
        Check.due("failed", x.hunkCount(), 1);
        x.addLine(PatienceDiff.SEQ_BASE, 1);
        Check.due("a line more in base", x.hunkCount(), 1);
        x.addLine(PatienceDiff.SEQ_NEW, 2);
        Check.due("a line more in B", x.hunkCount(), PatienceDiff.REFUSED);
        Check.due("diff()", x.diff(), 2);
        Check.due("now equal", x.hunkCount(), 0);
        x.addLine(PatienceDiff.SEQ_OLD, 2);
        Check.due("a line more in A", x.hunkCount(), PatienceDiff.REFUSED);
        Check.due("diff()", x.diff(), 2);
        x.clear();
        Check.due("cleared", x.hunkCount(), PatienceDiff.REFUSED);
    }

    // "Nothing changes."
    private static void nothingChanges() {
        for (State state : State.all()) {
            Look.changesNothing(state.name() + ": hunkCount", state.object(), () -> state.object().hunkCount());
        }
    }
}
