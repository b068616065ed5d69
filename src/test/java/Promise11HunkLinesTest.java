public final class Promise11HunkLinesTest {
    public static void main(String[] args) {
        int[] a = {1, 2, 3, 4, 5, 6, 0};
        int[] b = {1, 9, 3, 4, 5, 6, -7, 0};
        PatienceDiff x = Check.filled(1, a, b, Check.lines());
        refusesAll("without a diff", x);
        Check.due("diff()", x.diff(), 6);
        hunkLines(x, 0, Check.lines(0, 1, 2, 0), Check.lines(1, 2, 9, 3));
        hunkLines(x, 1, Check.lines(0, 2, 0), Check.lines(6, -7, 0));
        for (int h : Check.ODD_INTS) {
            if (h < 0 || h > 1) {
                hunkLines(x, h, Check.lines(), Check.lines());
            }
        }
        x.addLine(PatienceDiff.SEQ_BASE, 3);
        hunkLines(x, 1, Check.lines(0, 2, 0), Check.lines(6, -7, 0));
        x.addLine(PatienceDiff.SEQ_NEW, 3);
        refusesAll("after a B line", x);
        Check.end();
    }

    private static void hunkLines(PatienceDiff x, int h, int[] kinds, int[] hashes) {
        for (int k : Check.ODD_INTS) {
            boolean inside = k >= 0 && k < kinds.length;
            Check.due("hunkLineKind(" + h + ", " + k + ")", x.hunkLineKind(h, k),
                inside ? kinds[k] : PatienceDiff.REFUSED);
            Check.due("hunkLineHash(" + h + ", " + k + ")", x.hunkLineHash(h, k), inside ? hashes[k] : 0);
        }
    }

    private static void refusesAll(String what, PatienceDiff x) {
        for (int h : Check.ODD_INTS) {
            for (int k : Check.ODD_INTS) {
                Check.due(what + ": hunkLineKind(" + h + ", " + k + ")", x.hunkLineKind(h, k), PatienceDiff.REFUSED);
                Check.due(what + ": hunkLineHash(" + h + ", " + k + ")", x.hunkLineHash(h, k), 0);
            }
        }
    }
}
