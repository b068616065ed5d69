public final class Promise10HunkInfoTest {
    public static void main(String[] args) {
        int[] a = {1, 2, 3, 4, 5, 6, 7, 8};
        int[] b = {1, 9, 3, 4, 5, 6, 10, 11, 7, 8};
        PatienceDiff x = Check.filled(1, a, b, Check.lines(0, 1, 2, 3, 4, 5, 0, 6, 7, 8));
        for (int field : Check.ODD_INTS) {
            Check.due("no diff: hunkInfo(0, " + field + ")", x.hunkInfo(0, field), PatienceDiff.REFUSED);
        }
        Check.due("diff()", x.diff(), 7);
        Check.due("hunkCount()", x.hunkCount(), 2);
        Check.hunk("no result", x, 0, 0, 3, 0, 3, 4, PatienceDiff.REFUSED);
        Check.hunk("no result", x, 1, 5, 2, 5, 4, 4, PatienceDiff.REFUSED);
        refusesWrongArguments(x);

        Check.due("apply(0) fails", x.apply(0), PatienceDiff.APPLY_FAIL_BASE);
        Check.hunk("failed", x, 0, 0, 3, 0, 3, 4, PatienceDiff.REFUSED);
        Check.due("apply(1)", x.apply(1), 2);
        Check.hunk("applied", x, 0, 0, 3, 0, 3, 4, 1);
        Check.hunk("applied", x, 1, 5, 2, 5, 4, 4, 7);
        refusesWrongArguments(x);
        Check.due("apply(0) fails", x.apply(0), PatienceDiff.APPLY_FAIL_BASE);
        Check.hunk("failed after a success", x, 0, 0, 3, 0, 3, 4, 1);
        Check.hunk("failed after a success", x, 1, 5, 2, 5, 4, 4, 7);

        x.addLine(PatienceDiff.SEQ_BASE, 1);
        Check.hunk("a base line more", x, 0, 0, 3, 0, 3, 4, PatienceDiff.REFUSED);
        x.addLine(PatienceDiff.SEQ_OLD, 1);
        Check.hunk("an A line more", x, 0, -1, -1, -1, -1, -1, -1);
        Check.end();
    }

    private static void refusesWrongArguments(PatienceDiff x) {
        for (int odd : Check.ODD_INTS) {
            if (odd < 0 || odd > 5) {
                Check.due("hunkInfo(0, " + odd + ")", x.hunkInfo(0, odd), PatienceDiff.REFUSED);
                Check.due("hunkInfo(1, " + odd + ")", x.hunkInfo(1, odd), PatienceDiff.REFUSED);
            }
            for (int field : Check.ODD_INTS) {
                if (odd < 0 || odd > 1) {
                    Check.due("hunkInfo(" + odd + ", " + field + ")", x.hunkInfo(odd, field), PatienceDiff.REFUSED);
                }
            }
        }
    }
}
