// Each method below that stands under a sentence of the document is that sentence's test.
public final class Promise04LengthTest {
    public static void main(String[] args) {
        lengthsOfTheInputs();
        lengthOfTheResult();
        refusedWithoutAResult();
        otherSequencesAreRefused();
        nothingChanges();
        resultOutgrowsTheCapacity();
        lengthFollowsTheOps();
        Check.end();
    }

    // "length(seq) answers n for SEQ_OLD, m for SEQ_NEW, z for SEQ_BASE."
    private static void lengthsOfTheInputs() {
        for (int n : Check.lines(0, 1, 31, 32)) {
            for (int m : Check.lines(0, 1, 31, 32)) {
                for (int z : Check.lines(0, 1, 31, 32)) {
                    PatienceDiff x = Check.filled(0, Check.run(n, 1), Check.run(m, 50), Check.run(z, 90));
                    Check.due("length(0)", x.length(PatienceDiff.SEQ_OLD), n);
                    Check.due("length(1)", x.length(PatienceDiff.SEQ_NEW), m);
                    Check.due("length(2)", x.length(PatienceDiff.SEQ_BASE), z);
                }
            }
        }
    }

    // "For SEQ_RESULT it answers the result's length if a result is present"
    private static void lengthOfTheResult() {
        PatienceDiff x = Check.diffed(1, Check.lines(1), Check.lines(1, 2), Check.lines(1, 7, 8));
        Check.due("apply(0)", x.apply(0), 1);
        Check.due("length(3) after apply", x.length(PatienceDiff.SEQ_RESULT), 4);
        PatienceDiff empty = Check.diffed(0, Check.lines(4, 5), Check.lines(), Check.lines(4, 5));
        Check.due("apply(0) that deletes all", empty.apply(0), 1);
        Check.due("length(3) of an empty result", empty.length(PatienceDiff.SEQ_RESULT), 0);
        PatienceDiff nothing = Check.diffed(0, Check.lines(), Check.lines(), Check.lines());
        Check.due("apply(0) of nothing", nothing.apply(0), 0);
        Check.due("length(3) of a copy of nothing", nothing.length(PatienceDiff.SEQ_RESULT), 0);
    }

    // "otherwise REFUSED"
    private static void refusedWithoutAResult() {
        PatienceDiff x = Check.filled(1, Check.lines(1), Check.lines(1, 2), Check.lines(7, 1));
        Check.due("never diffed: length(3)", x.length(PatienceDiff.SEQ_RESULT), PatienceDiff.REFUSED);
        x.diff();
        Check.due("diffed: length(3)", x.length(PatienceDiff.SEQ_RESULT), PatienceDiff.REFUSED);
        Check.due("apply(0) fails", x.apply(0), PatienceDiff.APPLY_FAIL_BASE);
        Check.due("failed: length(3)", x.length(PatienceDiff.SEQ_RESULT), PatienceDiff.REFUSED);
        Check.due("apply(1)", x.apply(1), 1);
        Check.due("applied: length(3)", x.length(PatienceDiff.SEQ_RESULT), 3);
        x.diff();
        Check.due("diffed again: length(3)", x.length(PatienceDiff.SEQ_RESULT), PatienceDiff.REFUSED);
        Check.due("apply(1)", x.apply(1), 1);
        x.addLine(PatienceDiff.SEQ_BASE, 3);
        Check.due("a line more: length(3)", x.length(PatienceDiff.SEQ_RESULT), PatienceDiff.REFUSED);
        Check.due("apply(1)", x.apply(1), 1);
        Check.due("applied again: length(3)", x.length(PatienceDiff.SEQ_RESULT), 4);
        x.clear();
        Check.due("cleared: length(3)", x.length(PatienceDiff.SEQ_RESULT), PatienceDiff.REFUSED);
    }

    // "Any other seq -> REFUSED."
    private static void otherSequencesAreRefused() {
        for (State state : State.all()) {
            for (int seq : Check.ODD_INTS) {
                if (seq < 0 || seq > 3) {
                    Check.due(state.name() + ": length(" + seq + ")", state.object().length(seq), PatienceDiff.REFUSED);
                }
            }
        }
    }

    // "Nothing changes."
    private static void nothingChanges() {
        for (State state : State.all()) {
            Look.changesNothing(state.name() + ": length", state.object(), () -> {
                for (int seq : Check.ODD_INTS) {
                    state.object().length(seq);
                }
            });
        }
    }

    // "The result is not limited by CAP: [...] it can be up to 2*CAP (for example, with CAP = 1,
    // A empty, B = [5] and base = [7], the result is [5, 7])."
    private static void resultOutgrowsTheCapacity() {
        PatienceDiff example = new PatienceDiff(1, 0);
        Check.feed(example, PatienceDiff.SEQ_NEW, 5);
        Check.feed(example, PatienceDiff.SEQ_BASE, 7);
        Check.due("diff()", example.diff(), 0);
        Check.due("apply(0)", example.apply(0), 1);
        Check.sequence("the example", example, PatienceDiff.SEQ_RESULT, 5, 7);
        for (int capacity = 1; capacity <= 32; capacity++) {
            PatienceDiff x = new PatienceDiff(capacity, 3);
            Check.feed(x, PatienceDiff.SEQ_NEW, Check.run(capacity, 100));
            Check.feed(x, PatienceDiff.SEQ_BASE, Check.run(capacity, 100 + capacity));
            Check.due("diff()", x.diff(), 0);
            Check.due("apply(0)", x.apply(0), 1);
            Check.sequence("capacity " + capacity, x, PatienceDiff.SEQ_RESULT, Check.run(2 * capacity, 100));
        }
    }

    // "its length is z minus the number of DELETE ops plus the number of INSERT ops of the diff it was made from"
    private static void lengthFollowsTheOps() {
        for (int deletes = 0; deletes <= 6; deletes++) {
            for (int inserts = 0; inserts <= 6; inserts++) {
                PatienceDiff x = new PatienceDiff(8, 1);
                Check.feed(x, PatienceDiff.SEQ_OLD, 1);
                Check.feed(x, PatienceDiff.SEQ_NEW, 1);
                Check.feed(x, PatienceDiff.SEQ_BASE, 1);
                Check.feedMore(x, PatienceDiff.SEQ_OLD, Check.run(deletes, 10));
                Check.feedMore(x, PatienceDiff.SEQ_NEW, Check.run(inserts, 20));
                Check.feedMore(x, PatienceDiff.SEQ_BASE, Check.run(7, 10));
                Check.due("diff()", x.diff(), 1);
                Check.due("apply(0)", x.apply(0), deletes + inserts == 0 ? 0 : 1);
                Check.due(deletes + " deleted, " + inserts + " inserted: length(3)",
                    x.length(PatienceDiff.SEQ_RESULT), 8 - deletes + inserts);
            }
        }
    }
}
