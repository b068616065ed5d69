// The edit script and the hunks that diff() makes of the pairs.
// Each method below that stands under a sentence of the document is that sentence's test.
public final class Promise06ScriptAndHunksTest {
    private static final int[] NONE = {};

    public static void main(String[] args) {
        scriptRunsToBothEnds();
        scriptCounts();
        deletesBeforeInserts();
        keepsUpToTheContext();
        keepsAtTheEndsOfTheScript();
        noKeepWithContext0();
        changesAreAlwaysIncluded();
        hunksAreMaximalRuns();
        numberedInScriptOrder();
        fieldsOfEachKindOfChange();
        noHunksIfAEqualsB();
        Check.end();
    }

    // "while i < n or j < m"
    private static void scriptRunsToBothEnds() {
        Check.script("A ends first", Check.diffed(0, Check.lines(1), Check.lines(1, 2, 3), NONE), 0, 2, 2);
        Check.script("B ends first", Check.diffed(0, Check.lines(1, 2, 3), Check.lines(1), NONE), 0, 1, 1);
        Check.script("A starts late", Check.diffed(0, Check.lines(3), Check.lines(1, 2, 3), NONE), 2, 2, 0);
        Check.script("B starts late", Check.diffed(0, Check.lines(1, 2, 3), Check.lines(3), NONE), 1, 1, 0);
        Check.script("neither has a line", Check.diffed(0, NONE, NONE, NONE));
    }

    // "Its length is n + m - k; it holds k KEEP ops, n - k DELETE ops and m - k INSERT ops"
    private static void scriptCounts() {
        for (int n = 0; n <= 32; n += 4) {
            for (int m = 0; m <= 32; m += 4) {
                int[] a = new int[n];
                int[] b = new int[m];
                for (int t = 0; t < n; t++) {
                    a[t] = t * 5 % 12;
                }
                for (int t = 0; t < m; t++) {
                    b[t] = t * 7 % 13;
                }
                PatienceDiff x = Check.filled(0, a, b, NONE);
                int k = x.diff();
                int[] counts = new int[3];
                for (int p = 0; p < x.scriptLength(); p++) {
                    counts[x.scriptKind(p)]++;
                }
                Check.due("scriptLength()", x.scriptLength(), n + m - k);
                Check.due("KEEP ops", counts[PatienceDiff.KIND_KEEP], k);
                Check.due("DELETE ops", counts[PatienceDiff.KIND_DELETE], n - k);
                Check.due("INSERT ops", counts[PatienceDiff.KIND_INSERT], m - k);
            }
        }
    }

    // "between two KEEP ops the DELETE ops come before the INSERT ops"
    private static void deletesBeforeInserts() {
        Check.script("between, before and after",
            Check.diffed(0, Check.lines(7, 1, 2, 3, 4, 5), Check.lines(6, 1, 8, 9, 4, 10), NONE),
            1, 2, 0, 1, 1, 2, 2, 0, 1, 2);
        Check.script("without a KEEP op", Check.diffed(0, Check.lines(1, 2), Check.lines(3, 4), NONE), 1, 1, 2, 2);
    }

    // `between` KEEP ops stand between two inserts, with five more at both ends.
    private static PatienceDiff twoChanges(int context, int between) {
        PatienceDiff x = new PatienceDiff(32, context);
        for (int t = 0; t < 10 + between; t++) {
            x.addLine(PatienceDiff.SEQ_OLD, t);
            if (t == 5 || t == 5 + between) {
                x.addLine(PatienceDiff.SEQ_NEW, 100 + t);
            }
            x.addLine(PatienceDiff.SEQ_NEW, t);
        }
        Check.due("diff()", x.diff(), 10 + between);
        return x;
    }

    // "there is a change op before it in the script with at most C-1 KEEP ops strictly between them,
    // or a change op after it with at most C-1 KEEP ops strictly between them"
    private static void keepsUpToTheContext() {
        for (int c = 0; c <= 3; c++) {
            PatienceDiff after = Check.diffed(c, Check.run(10, 1), Check.run(11, 0), NONE);
            Check.hunk("context " + c + " after", after, 0, 0, c, 0, c + 1, c + 1);
            PatienceDiff before = Check.diffed(c, Check.run(10, 1), Check.run(11, 1), NONE);
            Check.hunk("context " + c + " before", before, 0, 10 - c, c, 10 - c, c + 1, c + 1);
            PatienceDiff both = twoChanges(c, 9);
            Check.hunk("context " + c + " on both sides", both, 0, 5 - c, 2 * c, 5 - c, 2 * c + 1, 2 * c + 1);
        }
    }

    // The same, where the script has fewer than C KEEP ops there.
    private static void keepsAtTheEndsOfTheScript() {
        for (int c = 0; c <= 3; c++) {
            for (int kept = 0; kept <= 4; kept++) {
                int in = Math.min(c, kept);
                PatienceDiff after = Check.diffed(c, Check.run(kept, 1), Check.run(kept + 1, 0), NONE);
                Check.hunk(kept + " after, context " + c, after, 0, 0, in, 0, in + 1, in + 1);
                PatienceDiff before = Check.diffed(c, Check.run(kept, 1), Check.run(kept + 1, 1), NONE);
                Check.hunk(kept + " before, context " + c, before, 0, kept - in, in, kept - in, in + 1, in + 1);
            }
        }
    }

    // "so with C = 0 no KEEP op is included"
    private static void noKeepWithContext0() {
        PatienceDiff x = Check.diffed(0, Check.lines(1, 2, 3, 4), Check.lines(9, 1, 8, 2, 4, 7), NONE);
        Check.due("hunkCount()", x.hunkCount(), 4);
        for (int h = 0; h < x.hunkCount(); h++) {
            for (int k = 0; k < x.hunkInfo(h, PatienceDiff.F_SIZE); k++) {
                Check.holds("no KEEP op in hunk " + h, x.hunkLineKind(h, k) != PatienceDiff.KIND_KEEP);
            }
        }
    }

    // "Change ops are always included."
    private static void changesAreAlwaysIncluded() {
        for (int c = 0; c <= 3; c++) {
            PatienceDiff x = Check.diffed(c, Check.run(32, 0), Check.run(32, 100), NONE);
            Check.due("64 changes: hunkCount()", x.hunkCount(), 1);
            Check.hunk("64 changes", x, 0, 0, 32, 0, 32, 64);
            PatienceDiff y = Check.diffed(c, Check.run(20, 0), Check.lines(50, 0, 19, 51), NONE);
            int changes = 0;
            for (int h = 0; h < y.hunkCount(); h++) {
                for (int k = 0; k < y.hunkInfo(h, PatienceDiff.F_SIZE); k++) {
                    changes += y.hunkLineKind(h, k) == PatienceDiff.KIND_KEEP ? 0 : 1;
                }
            }
            Check.due("context " + c + ": changes in hunks", changes, 20);
        }
    }

    // "Hunks are the maximal runs of consecutive included ops"
    private static void hunksAreMaximalRuns() {
        for (int c = 0; c <= 3; c++) {
            for (int between = 1; between <= 8; between++) {
                PatienceDiff x = twoChanges(c, between);
                String what = "context " + c + ", " + between + " between";
                if (between <= 2 * c) {
                    int kept = 2 * c + between;
                    Check.due(what + ": hunkCount()", x.hunkCount(), 1);
                    Check.hunk(what, x, 0, 5 - c, kept, 5 - c, kept + 2, kept + 2);
                } else {
                    Check.due(what + ": hunkCount()", x.hunkCount(), 2);
                    Check.hunk(what, x, 0, 5 - c, 2 * c, 5 - c, 2 * c + 1, 2 * c + 1);
                    Check.hunk(what, x, 1, 5 + between - c, 2 * c, 6 + between - c, 2 * c + 1, 2 * c + 1);
                }
            }
        }
    }

    // "numbered 0, 1, ... in script order"
    private static void numberedInScriptOrder() {
        PatienceDiff x = new PatienceDiff(32, 0);
        for (int t = 0; t < 16; t++) {
            Check.feedMore(x, PatienceDiff.SEQ_OLD, t, 100 + t);
            Check.feedMore(x, PatienceDiff.SEQ_NEW, t, 200 + t);
        }
        Check.due("diff()", x.diff(), 16);
        Check.due("hunkCount()", x.hunkCount(), 16);
        for (int h = 0; h < 16; h++) {
            Check.hunk("in order", x, h, 2 * h + 1, 1, 2 * h + 1, 1, 2);
            Check.due("hunkLineHash(" + h + ", 0)", x.hunkLineHash(h, 0), 100 + h);
            Check.due("hunkLineHash(" + h + ", 1)", x.hunkLineHash(h, 1), 200 + h);
        }
    }

    // "aStart = the number of KEEP and DELETE ops before its first op", and so on.
    private static void fieldsOfEachKindOfChange() {
        PatienceDiff x = Check.diffed(0,
            Check.lines(1, 50, 51, 2, 3, 52, 4), Check.lines(1, 2, 60, 61, 62, 3, 63, 64, 4), NONE);
        Check.due("hunkCount()", x.hunkCount(), 3);
        Check.hunk("deleted", x, 0, 1, 2, 1, 0, 2);
        Check.hunk("inserted", x, 1, 4, 0, 2, 3, 3);
        Check.hunk("replaced", x, 2, 5, 1, 6, 2, 3);
    }

    // "If A equals B there are no change ops and no hunks."
    private static void noHunksIfAEqualsB() {
        for (int c = 0; c <= 3; c++) {
            for (int length = 0; length <= 32; length++) {
                PatienceDiff x = Check.diffed(c, Check.run(length, 0), Check.run(length, 0), NONE);
                Check.due("hunkCount()", x.hunkCount(), 0);
                Check.script(length + " equal lines", x, new int[length]);
                Check.due("hunkInfo(0, 4)", x.hunkInfo(0, PatienceDiff.F_SIZE), PatienceDiff.REFUSED);
            }
        }
    }
}
