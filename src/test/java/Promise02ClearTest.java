public final class Promise02ClearTest {
    public static void main(String[] args) {
        PatienceDiff x = new PatienceDiff(3, 0);
        x.clear();
        looksFresh("clear of a fresh object", x);
        runOnce(x);
        x.clear();
        looksFresh("clear after a run", x);
        runOnce(x);
        x.clear();
        Check.due("diff() after clear", x.diff(), 0);
        Check.due("scriptLength() after clear", x.scriptLength(), 0);
        Check.due("hunkCount() after clear", x.hunkCount(), 0);
        Check.due("apply(0) after clear", x.apply(0), 0);
        Check.sequence("after clear", x, PatienceDiff.SEQ_RESULT);
        Check.end();
    }

    private static void looksFresh(String what, PatienceDiff x) {
        for (int seq = 0; seq <= 2; seq++) {
            Check.sequence(what, x, seq);
            Check.due(what + ": line(" + seq + ", 0)", x.line(seq, 0), 0);
        }
        Check.noDiff(what, x);
        Check.noResult(what, x);
    }

    // The capacity and the context show in the answers, so a second round after
    // clear tells that both were kept.
    private static void runOnce(PatienceDiff x) {
        Check.feed(x, PatienceDiff.SEQ_OLD, 1, 2, 3);
        Check.due("addLine past the capacity", x.addLine(PatienceDiff.SEQ_OLD, 4), PatienceDiff.REFUSED);
        Check.feed(x, PatienceDiff.SEQ_NEW, 1, 9, 3);
        Check.feed(x, PatienceDiff.SEQ_BASE, 1, 2, 3);
        Check.due("diff()", x.diff(), 2);
        Check.due("hunkCount()", x.hunkCount(), 1);
        Check.hunk("context 0", x, 0, 1, 1, 1, 1, 2, -1);
        Check.due("apply(0)", x.apply(0), 1);
        Check.sequence("applied", x, PatienceDiff.SEQ_RESULT, 1, 9, 3);
    }
}
