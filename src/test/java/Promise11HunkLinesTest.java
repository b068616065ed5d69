// Each method below that stands under a sentence of the document is that sentence's test.
public final class Promise11HunkLinesTest {
    private static final int[] NONE = {};

    public static void main(String[] args) {
        kindsAndLines();
        linesOfAAndB();
        refusedWithoutADiff();
        refusedOutsideTheHunks();
        refusedOutsideTheHunk();
        zeroExactlyWhereRefused();
        nothingChanges();
        Check.end();
    }

    private static PatienceDiff twoHunks() {
        return Check.diffed(1, Check.lines(1, 2, 3, 4, 5, 6, 0), Check.lines(1, 9, 3, 4, 5, 6, -7, 0), NONE);
    }

    private static void hunkLines(String what, PatienceDiff x, int h, int[] kinds, int[] hashes) {
        Check.due(what + ": size", x.hunkInfo(h, PatienceDiff.F_SIZE), kinds.length);
        for (int k = 0; k < kinds.length; k++) {
            Check.due(what + ": hunkLineKind(" + h + ", " + k + ")", x.hunkLineKind(h, k), kinds[k]);
            Check.due(what + ": hunkLineHash(" + h + ", " + k + ")", x.hunkLineHash(h, k), hashes[k]);
        }
    }

    private static void refused(String what, PatienceDiff x, int h, int k) {
        Check.due(what + ": hunkLineKind(" + h + ", " + k + ")", x.hunkLineKind(h, k), PatienceDiff.REFUSED);
        Check.due(what + ": hunkLineHash(" + h + ", " + k + ")", x.hunkLineHash(h, k), 0);
    }

    private static void allRefused(String what, PatienceDiff x) {
        for (int h : Check.ODD_INTS) {
            for (int k : Check.ODD_INTS) {
                refused(what, x, h, k);
            }
        }
    }

    // "hunkLineKind(h, k) answers the kind (KIND_KEEP, KIND_DELETE, KIND_INSERT) of line k of hunk h"
    private static void kindsAndLines() {
        PatienceDiff x = twoHunks();
        hunkLines("first", x, 0, Check.lines(0, 1, 2, 0), Check.lines(1, 2, 9, 3));
        hunkLines("second", x, 1, Check.lines(0, 2, 0), Check.lines(6, -7, 0));
        x.addLine(PatienceDiff.SEQ_BASE, 3);
        hunkLines("a line more in base", x, 1, Check.lines(0, 2, 0), Check.lines(6, -7, 0));
        PatienceDiff longest = Check.diffed(0, Check.run(32, 0), Check.run(32, 32), NONE);
        int[] kinds = new int[64];
        for (int k = 0; k < 64; k++) {
            kinds[k] = k < 32 ? PatienceDiff.KIND_DELETE : PatienceDiff.KIND_INSERT;
        }
        hunkLines("the longest", longest, 0, kinds, Check.run(64, 0));
    }

    // "for a KEEP or DELETE op the A line, for an INSERT op the B line"
    private static void linesOfAAndB() {
        int[] odd = {Integer.MIN_VALUE, -1, Integer.MAX_VALUE};
        hunkLines("deleted", Check.diffed(0, odd, NONE, NONE), 0, Check.lines(1, 1, 1), odd);
        hunkLines("inserted", Check.diffed(0, NONE, odd, NONE), 0, Check.lines(2, 2, 2), odd);
        hunkLines("kept around a change",
            Check.diffed(3, Check.lines(odd[0], 5, odd[2]), Check.lines(odd[0], odd[1], odd[2]), NONE),
            0, Check.lines(0, 1, 2, 0), Check.lines(odd[0], 5, odd[1], odd[2]));
    }

    // "It answers REFUSED if no diff is present"
    private static void refusedWithoutADiff() {
        allRefused("fresh", new PatienceDiff(32, 1));
        allRefused("never diffed", Check.filled(1, Check.lines(1), Check.lines(2), Check.lines(1)));
        for (int seq = PatienceDiff.SEQ_OLD; seq <= PatienceDiff.SEQ_NEW; seq++) {
            PatienceDiff x = twoHunks();
            x.addLine(seq, 3);
            allRefused("a line more in " + seq, x);
        }
        PatienceDiff cleared = twoHunks();
        cleared.clear();
        allRefused("cleared", cleared);
    }

    // "if h is not in 0..hunkCount()-1"
    private static void refusedOutsideTheHunks() {
        for (State state : State.all()) {
            int hunks = Math.max(state.object().hunkCount(), 0);
            for (int h : Check.ODD_INTS) {
                for (int k = 0; k <= 8 && (h < 0 || h >= hunks); k++) {
                    refused(state.name(), state.object(), h, k);
                }
            }
        }
        allRefused("no hunks", Check.diffed(3, Check.lines(1, 2), Check.lines(1, 2), NONE));
    }

    // "or if k is not in 0..size-1 of that hunk"
    private static void refusedOutsideTheHunk() {
        for (State state : State.all()) {
            for (int h = 0; h < state.object().hunkCount(); h++) {
                int size = state.object().hunkInfo(h, PatienceDiff.F_SIZE);
                for (int k : Check.ODD_INTS) {
                    if (k < 0 || k >= size) {
                        refused(state.name(), state.object(), h, k);
                    }
                }
                refused(state.name(), state.object(), h, size);
            }
        }
        // The op after the first hunk's last is a KEEP, the one before the second's first too.
        PatienceDiff x = twoHunks();
        refused("between the hunks", x, 0, 4);
        refused("the second hunk's first line", x, 0, 5);
        refused("before the second hunk", x, 1, -1);
        refused("past the script", x, 1, 3);
    }

    // "It answers 0 in exactly the cases where hunkLineKind refuses."
    private static void zeroExactlyWhereRefused() {
        for (State state : State.all()) {
            for (int h = -2; h <= 3; h++) {
                for (int k = -2; k <= 65; k++) {
                    // No text of these states has a line 0 in A or B.
                    boolean refused = state.object().hunkLineKind(h, k) == PatienceDiff.REFUSED;
                    Check.holds(state.name() + ": hunkLineHash(" + h + ", " + k + ") is 0 only if refused",
                        refused == (state.object().hunkLineHash(h, k) == 0));
                }
            }
        }
        // A line 0 answers 0 as well, and is not refused.
        PatienceDiff zeros = Check.diffed(1, Check.lines(0, 5), Check.lines(0, 0), NONE);
        hunkLines("lines of 0", zeros, 0, Check.lines(0, 1, 2), Check.lines(0, 5, 0));
    }

    // "Neither changes anything."
    private static void nothingChanges() {
        for (State state : State.all()) {
            Look.changesNothing(state.name() + ": hunkLineKind and hunkLineHash", state.object(), () -> {
                for (int h : Check.ODD_INTS) {
                    for (int k : Check.ODD_INTS) {
                        state.object().hunkLineKind(h, k);
                        state.object().hunkLineHash(h, k);
                    }
                }
            });
        }
    }
}
