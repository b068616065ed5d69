// Each method below that stands under a sentence of the document is that sentence's test.
public final class Promise10HunkInfoTest {
    private static final int[] NONE = {};

    public static void main(String[] args) {
        fieldsOfTheHunks();
        whereItWasPlaced();
        noPlaceWithoutAResult();
        refusedWithoutADiff();
        refusedOutsideTheHunks();
        refusedOutsideTheFields();
        nothingChanges();
        Check.end();
    }

    // Two hunks, expected at 0 and 5; base has a line more before each.
    private static PatienceDiff twoHunks() {
        return Check.diffed(1, Check.lines(1, 2, 3, 4, 5, 6, 7, 8), Check.lines(1, 9, 3, 4, 5, 6, 10, 11, 7, 8),
            Check.lines(0, 1, 2, 3, 4, 5, 0, 6, 7, 8));
    }

    // "F_A_START, F_A_LEN, F_B_START, F_B_LEN, F_SIZE: aStart, aLen, bStart, bLen, size as defined in Promise 6."
    private static void fieldsOfTheHunks() {
        PatienceDiff x = twoHunks();
        Check.due("hunkCount()", x.hunkCount(), 2);
        Check.hunk("two hunks", x, 0, 0, 3, 0, 3, 4);
        Check.hunk("two hunks", x, 1, 5, 2, 5, 4, 4);
        Check.hunk("A empty", Check.diffed(3, NONE, Check.run(32, 0), NONE), 0, 0, 0, 0, 32, 32);
        Check.hunk("B empty", Check.diffed(3, Check.run(32, 0), NONE, NONE), 0, 0, 32, 0, 0, 32);
        Check.hunk("the longest", Check.diffed(3, Check.run(32, 0), Check.run(32, 100), NONE), 0, 0, 32, 0, 32, 64);
        Check.hunk("an insert at the end", Check.diffed(0, Check.run(31, 0), Check.run(32, 0), NONE),
            0, 31, 0, 31, 1, 1);
        Check.hunk("a delete at the end", Check.diffed(0, Check.run(32, 0), Check.run(31, 0), NONE),
            0, 31, 1, 31, 0, 1);
    }

    // "F_APPLIED_AT: the base position p at which hunk h was placed by the last successful apply"
    private static void whereItWasPlaced() {
        PatienceDiff x = twoHunks();
        Check.due("apply(1)", x.apply(1), 2);
        Check.hunk("applied", x, 0, 0, 3, 0, 3, 4, 1);
        Check.hunk("applied", x, 1, 5, 2, 5, 4, 4, 7);
        Check.due("apply(0) fails", x.apply(0), PatienceDiff.APPLY_FAIL_BASE);
        Check.hunk("failed after a success", x, 0, 0, 3, 0, 3, 4, 1);
        Check.hunk("failed after a success", x, 1, 5, 2, 5, 4, 4, 7);
        PatienceDiff first = Check.diffed(0, NONE, Check.lines(1), Check.run(32, 10));
        Check.due("apply(0)", first.apply(0), 1);
        Check.due("hunkInfo(0, 5) at the very start", first.hunkInfo(0, PatienceDiff.F_APPLIED_AT), 0);
        PatienceDiff last = Check.diffed(0, Check.run(31, 0), Check.run(32, 0), Check.run(32, 10));
        Check.due("apply(0)", last.apply(0), 1);
        Check.due("hunkInfo(0, 5) before the last line", last.hunkInfo(0, PatienceDiff.F_APPLIED_AT), 31);
        PatienceDiff end = Check.diffed(0, Check.lines(1), NONE, Check.run(9, -7));
        Check.due("apply(8)", end.apply(8), 1);
        Check.due("hunkInfo(0, 5) eight off", end.hunkInfo(0, PatienceDiff.F_APPLIED_AT), 8);
    }

    // "or REFUSED if no result is present"
    private static void noPlaceWithoutAResult() {
        PatienceDiff x = twoHunks();
        notPlaced("diffed", x);
        Check.due("apply(0) fails", x.apply(0), PatienceDiff.APPLY_FAIL_BASE);
        notPlaced("failed", x);
        Check.due("apply(1)", x.apply(1), 2);
        x.addLine(PatienceDiff.SEQ_BASE, 1);
        notPlaced("a line more in base", x);
        Check.due("apply(1)", x.apply(1), 2);
        Check.due("applied again: hunkInfo(1, 5)", x.hunkInfo(1, PatienceDiff.F_APPLIED_AT), 7);
        x.diff();
        notPlaced("diffed again", x);
    }

    private static void notPlaced(String what, PatienceDiff x) {
        Check.hunk(what, x, 0, 0, 3, 0, 3, 4, PatienceDiff.REFUSED);
        Check.hunk(what, x, 1, 5, 2, 5, 4, 4, PatienceDiff.REFUSED);
    }

    // "It answers REFUSED also if no diff is present"
    private static void refusedWithoutADiff() {
        allRefused("fresh", new PatienceDiff(32, 1));
        allRefused("never diffed", Check.filled(1, Check.lines(1), Check.lines(2), Check.lines(1)));
        for (int seq = PatienceDiff.SEQ_OLD; seq <= PatienceDiff.SEQ_NEW; seq++) {
            PatienceDiff x = twoHunks();
            Check.due("apply(1)", x.apply(1), 2);
            x.addLine(seq, 1);
            allRefused("a line more in " + seq, x);
        }
        PatienceDiff cleared = twoHunks();
        Check.due("apply(1)", cleared.apply(1), 2);
        cleared.clear();
        allRefused("cleared", cleared);
    }

    private static void allRefused(String what, PatienceDiff x) {
        for (int h : Check.ODD_INTS) {
            for (int field : Check.ODD_INTS) {
                Check.due(what + ": hunkInfo(" + h + ", " + field + ")", x.hunkInfo(h, field), PatienceDiff.REFUSED);
            }
        }
    }

    // "if h is not in 0..hunkCount()-1"
    private static void refusedOutsideTheHunks() {
        for (State state : State.all()) {
            int hunks = Math.max(state.object().hunkCount(), 0);
            for (int h : Check.ODD_INTS) {
                for (int field = 0; field <= 5; field++) {
                    if (h < 0 || h >= hunks) {
                        Check.due(state.name() + ": hunkInfo(" + h + ", " + field + ")",
                            state.object().hunkInfo(h, field), PatienceDiff.REFUSED);
                    }
                }
            }
        }
        // A later diff with fewer hunks must not show one of before.
        PatienceDiff x = Check.diffed(0, Check.lines(1), Check.lines(2, 1, 3), NONE);
        Check.hunk("the second hunk", x, 1, 1, 0, 2, 1, 1);
        Check.feedMore(x, PatienceDiff.SEQ_OLD, 3);
        Check.due("diff()", x.diff(), 2);
        Check.hunk("the second hunk is gone", x, 1, -1, -1, -1, -1, -1, -1);
    }

    // "or if field is not in 0..5"
    private static void refusedOutsideTheFields() {
        PatienceDiff x = twoHunks();
        for (int round = 0; round < 2; round++) {
            for (int field : Check.ODD_INTS) {
                for (int h = 0; h <= 1; h++) {
                    if (field < 0 || field > 5) {
                        Check.due("hunkInfo(" + h + ", " + field + ")", x.hunkInfo(h, field), PatienceDiff.REFUSED);
                    }
                }
            }
            Check.due("apply(1)", x.apply(1), 2);
        }
    }

    // "Nothing changes."
    private static void nothingChanges() {
        for (State state : State.all()) {
            Look.changesNothing(state.name() + ": hunkInfo", state.object(), () -> {
                for (int h : Check.ODD_INTS) {
                    for (int field : Check.ODD_INTS) {
                        state.object().hunkInfo(h, field);
                    }
                }
            });
        }
    }
}
