public final class Promise08ScriptTest {
    public static void main(String[] args) {
        PatienceDiff x = Check.filled(0, Check.lines(1, 2, 3, 4), Check.lines(1, 8, 9, 4, 5), Check.lines());
        Check.due("scriptLength() without a diff", x.scriptLength(), PatienceDiff.REFUSED);
        for (int p : Check.ODD_INTS) {
            Check.due("scriptKind(" + p + ") without a diff", x.scriptKind(p), PatienceDiff.REFUSED);
        }
        Check.due("diff()", x.diff(), 2);
        Check.script("deletes before inserts", x, 0, 1, 1, 2, 2, 0, 2);
        for (int p : Check.ODD_INTS) {
            if (p < 0 || p > 6) {
                Check.due("scriptKind(" + p + ")", x.scriptKind(p), PatienceDiff.REFUSED);
            }
        }
        x.addLine(PatienceDiff.SEQ_OLD, 5);
        Check.due("scriptLength() after an A line", x.scriptLength(), PatienceDiff.REFUSED);
        Check.due("scriptKind(0) after an A line", x.scriptKind(0), PatienceDiff.REFUSED);

        Check.script("both empty", Check.diffed(0, Check.lines(), Check.lines(), Check.lines()));
        Check.script("A empty", Check.diffed(0, Check.lines(), Check.lines(1, 2), Check.lines()), 2, 2);
        Check.script("B empty", Check.diffed(0, Check.lines(1, 2), Check.lines(), Check.lines()), 1, 1);
        longestScript();
        Check.end();
    }

    private static void longestScript() {
        PatienceDiff x = new PatienceDiff(32, 3);
        int[] want = new int[64];
        for (int t = 0; t < 32; t++) {
            x.addLine(PatienceDiff.SEQ_OLD, t);
            x.addLine(PatienceDiff.SEQ_NEW, 100 + t);
            want[t] = PatienceDiff.KIND_DELETE;
            want[32 + t] = PatienceDiff.KIND_INSERT;
        }
        Check.due("diff() of nothing in common", x.diff(), 0);
        Check.script("nothing in common", x, want);
        Check.due("scriptKind(64)", x.scriptKind(64), PatienceDiff.REFUSED);
    }
}
