public final class Promise06DiffTest {
    private static final int[] NONE = {};

    public static void main(String[] args) {
        trimsBothEnds();
        anchorsMustBeUniqueInTheGap();
        chainTakesTheGreatestIndex();
        gapsAreRefined();
        fallsBackToLcs();
        writesTheScript();
        cutsHunksByContext();
        replacesWhatWas();
        Check.end();
    }

    private static void pairs(String what, int[] a, int[] b, int... want) {
        PatienceDiff x = Check.filled(0, a, b, NONE);
        int k = 0;
        for (int j : want) {
            k += j >= 0 ? 1 : 0;
        }
        Check.due(what + ": diff()", x.diff(), k);
        Check.matches(what, x, want);
        Check.due(what + ": scriptLength()", x.scriptLength(), a.length + b.length - k);
    }

    private static void trimsBothEnds() {
        pairs("both empty", NONE, NONE);
        pairs("A empty", NONE, Check.lines(1, 2));
        pairs("B empty", Check.lines(1, 2), NONE, -1, -1);
        pairs("equal", Check.lines(4, 4, 5), Check.lines(4, 4, 5), 0, 1, 2);
        pairs("nothing in common", Check.lines(1, 2), Check.lines(3, 4), -1, -1);
        pairs("middle deleted", Check.lines(1, 2, 3), Check.lines(1, 3), 0, -1, 1);
        pairs("middle inserted", Check.lines(1, 3), Check.lines(1, 2, 3), 0, 2);
        pairs("prefix comes first", Check.lines(7, 7), Check.lines(7), 0, -1);
        pairs("suffix comes next", Check.lines(1, 7, 7), Check.lines(2, 7), -1, -1, 1);
        pairs("extreme ints", Check.lines(Integer.MIN_VALUE, 0, Integer.MAX_VALUE),
            Check.lines(Integer.MIN_VALUE, Integer.MAX_VALUE), 0, -1, 1);
    }

    // In the first three the four or three 2s are the longest match, and only an
    // anchor 9 would keep them from being found.
    private static void anchorsMustBeUniqueInTheGap() {
        pairs("an anchor beats a longer match",
            Check.lines(9, 2, 2, 2, 2, 1), Check.lines(2, 2, 2, 2, 9, 3), 4, -1, -1, -1, -1, -1);
        pairs("twice in A is no anchor",
            Check.lines(9, 4, 9, 2, 2, 2, 6), Check.lines(2, 2, 2, 9, 5), -1, -1, -1, 0, 1, 2, -1);
        pairs("twice in B is no anchor",
            Check.lines(2, 2, 2, 9, 5), Check.lines(9, 4, 9, 2, 2, 2, 6), 3, 4, 5, -1, -1);
        // The trimmed 5 does not count, so the other 5 is unique in the gap.
        pairs("counted after the prefix",
            Check.lines(5, 5, 2, 2, 2, 1), Check.lines(5, 2, 2, 2, 5, 3), 0, 4, -1, -1, -1, -1);
        pairs("counted after the suffix",
            Check.lines(9, 2, 2, 1, 9), Check.lines(2, 2, 9, 3, 9), 2, -1, -1, -1, 4);
    }

    private static void chainTakesTheGreatestIndex() {
        pairs("the last of equal chains",
            Check.lines(1, 2, 3, 4), Check.lines(3, 4, 1, 2), -1, -1, 0, 1);
        pairs("the greatest index before",
            Check.lines(1, 2, 3, 8), Check.lines(2, 1, 3, 9), -1, 0, 2, -1);
        pairs("all crossed",
            Check.lines(1, 2, 3), Check.lines(3, 2, 1), -1, -1, 0);
        pairs("longer beats later",
            Check.lines(1, 2, 3, 4, 5), Check.lines(4, 5, 1, 2, 3), 2, 3, 4, -1, -1);
        // Ranks: 1:1, 2:1, 3:2, 4:2, 5:3, so 5, then 4 before 3, then 2 before 1.
        pairs("the tie rule at each step",
            Check.lines(1, 2, 3, 4, 5, 8), Check.lines(2, 1, 4, 3, 5, 9), -1, 0, -1, 2, 4, -1);
    }

    private static void gapsAreRefined() {
        pairs("ends of the gaps",
            Check.lines(10, 5, 1, 5, 20), Check.lines(11, 5, 1, 5, 21), -1, 1, 2, 3, -1);
        pairs("anchors inside the gaps",
            Check.lines(10, 5, 12, 1, 14, 5, 16), Check.lines(11, 5, 13, 1, 15, 5, 17), -1, 1, -1, 3, -1, 5, -1);
        // 1 splits first, then 2 is unique on the left, then 3 left of that.
        pairs("gaps inside gaps",
            Check.lines(40, 3, 41, 2, 42, 3, 43, 1, 44, 2, 45, 3, 46),
            Check.lines(50, 3, 51, 2, 52, 3, 53, 1, 54, 2, 55, 3, 56),
            -1, 1, -1, 3, -1, 5, -1, 7, -1, 9, -1, 11, -1);
        pairs("three gaps between two anchors",
            Check.lines(6, 6, 1, 6, 2, 6, 9), Check.lines(7, 6, 6, 1, 6, 2, 8, 6), 1, 2, 3, 4, 5, 7, -1);
    }

    private static void fallsBackToLcs() {
        pairs("on a tie A moves on",
            Check.lines(1, 1, 2, 2), Check.lines(2, 2, 1, 1), -1, -1, 0, 1);
        pairs("B moves on where that is longer",
            Check.lines(1, 1, 1, 2, 2), Check.lines(2, 2, 1, 1, 1), 2, 3, 4, -1, -1);
        pairs("A moves on where that is longer",
            Check.lines(1, 1, 2, 2, 2), Check.lines(2, 2, 2, 1, 1), -1, -1, 0, 1, 2);
        pairs("a line in one alone",
            Check.lines(8, 1, 1, 7), Check.lines(1, 9, 1, 1, 5), -1, 0, 2, -1);
        pairs("inside a gap",
            Check.lines(1, 1, 2, 2, 9, 3), Check.lines(2, 2, 1, 1, 9, 4), -1, -1, 0, 1, 4, -1);
    }

    private static void writesTheScript() {
        PatienceDiff x = Check.diffed(0, Check.lines(1, 2, 3, 4, 5), Check.lines(6, 1, 7, 8, 4, 9), NONE);
        Check.script("deletes before inserts", x, 2, 0, 1, 1, 2, 2, 0, 1, 2);
    }

    // `between` KEEP ops stand between two inserts, with five more at both ends.
    private static PatienceDiff twoChanges(int context, int between) {
        PatienceDiff x = new PatienceDiff(32, context);
        for (int t = 0; t < 10 + between; t++) {
            x.addLine(PatienceDiff.SEQ_OLD, t);
            if (t == 5 || t == 5 + between) {
                x.addLine(PatienceDiff.SEQ_NEW, 100 + t);
            }
            x.addLine(PatienceDiff.SEQ_NEW, t);
        }
        Check.due("diff()", x.diff(), 10 + between);
        return x;
    }

    private static void cutsHunksByContext() {
        for (int c = 0; c <= 3; c++) {
            for (int between = 1; between <= 8; between++) {
                PatienceDiff x = twoChanges(c, between);
                String what = "context " + c + ", " + between + " between";
                if (between <= 2 * c) {
                    int kept = 2 * c + between;
                    Check.due(what + ": hunkCount()", x.hunkCount(), 1);
                    Check.hunk(what, x, 0, 5 - c, kept, 5 - c, kept + 2, kept + 2);
                } else {
                    Check.due(what + ": hunkCount()", x.hunkCount(), 2);
                    Check.hunk(what, x, 0, 5 - c, 2 * c, 5 - c, 2 * c + 1, 2 * c + 1);
                    Check.hunk(what, x, 1, 5 + between - c, 2 * c, 6 + between - c, 2 * c + 1, 2 * c + 1);
                }
            }
        }
        PatienceDiff atStart = Check.diffed(2, Check.lines(1, 2, 3, 4), Check.lines(1, 9, 2, 3, 4), NONE);
        Check.hunk("context cut short by the start", atStart, 0, 0, 3, 0, 4, 4);
        PatienceDiff atEnd = Check.diffed(2, Check.lines(1, 2, 3, 4), Check.lines(1, 2, 3, 9, 4), NONE);
        Check.hunk("context cut short by the end", atEnd, 0, 1, 3, 1, 4, 4);
        PatienceDiff equal = Check.diffed(3, Check.lines(1, 2), Check.lines(1, 2), NONE);
        Check.due("A equals B: hunkCount()", equal.hunkCount(), 0);
    }

    private static void replacesWhatWas() {
        PatienceDiff x = Check.diffed(1, Check.lines(1, 2), Check.lines(1, 3), Check.lines(1, 2));
        Check.due("apply(0)", x.apply(0), 1);
        Check.due("diff() again", x.diff(), 1);
        Check.noResult("diff() again", x);
        Check.matches("diff() again", x, 0, -1);
        Check.script("diff() again", x, 0, 1, 2);
        Check.hunk("diff() again", x, 0, 0, 2, 0, 2, 3, -1);
        Check.sequence("diff() again", x, PatienceDiff.SEQ_OLD, 1, 2);
        Check.sequence("diff() again", x, PatienceDiff.SEQ_NEW, 1, 3);
        Check.sequence("diff() again", x, PatienceDiff.SEQ_BASE, 1, 2);
        x.addLine(PatienceDiff.SEQ_NEW, 2);
        Check.due("diff() of more", x.diff(), 2);
        Check.matches("diff() of more", x, 0, 2);
        Check.script("diff() of more", x, 0, 2, 0);
        Check.due("addLine(0, 9) within CAP", x.addLine(PatienceDiff.SEQ_OLD, 9), 3);
    }
}
