// Each method below that stands under a sentence of the document is that sentence's test.
public final class Promise05LineTest {
    public static void main(String[] args) {
        answersTheLine();
        otherSequencesAnswer0();
        absentResultAnswers0();
        indexesOutsideAnswer0();
        zeroIsALegalLine();
        nothingChanges();
        Check.end();
    }

    // A = [11, 12, 13], B = [21, 22], base = [31, 11, 12, 13], and the result [31, 21, 22].
    private static PatienceDiff applied() {
        PatienceDiff x = Check.diffed(0, Check.lines(11, 12, 13), Check.lines(21, 22), Check.lines(31, 11, 12, 13));
        Check.due("apply(1)", x.apply(1), 1);
        return x;
    }

    // "line(seq, index) answers line index (0-based) of sequence seq, for seq in 0..3."
    private static void answersTheLine() {
        PatienceDiff x = applied();
        Check.sequence("applied", x, PatienceDiff.SEQ_OLD, 11, 12, 13);
        Check.sequence("applied", x, PatienceDiff.SEQ_NEW, 21, 22);
        Check.sequence("applied", x, PatienceDiff.SEQ_BASE, 31, 11, 12, 13);
        Check.sequence("applied", x, PatienceDiff.SEQ_RESULT, 31, 21, 22);
        PatienceDiff full = Check.diffed(3, Check.lines(), Check.run(32, 100), Check.run(32, 132));
        Check.due("apply(0)", full.apply(0), 1);
        Check.due("line(1, 31)", full.line(PatienceDiff.SEQ_NEW, 31), 131);
        Check.due("line(2, 31)", full.line(PatienceDiff.SEQ_BASE, 31), 163);
        Check.sequence("the longest result", full, PatienceDiff.SEQ_RESULT, Check.run(64, 100));
        Check.sequence("the longest A", Check.filled(0, Check.run(32, 7), Check.lines(), Check.lines()),
            PatienceDiff.SEQ_OLD, Check.run(32, 7));
    }

    // "It answers 0 if seq is not in 0..3"
    private static void otherSequencesAnswer0() {
        for (State state : State.all()) {
            for (int seq : Check.ODD_INTS) {
                for (int index : Check.ODD_INTS) {
                    if (seq < 0 || seq > 3) {
                        Check.due(state.name() + ": line(" + seq + ", " + index + ")",
                            state.object().line(seq, index), 0);
                    }
                }
            }
        }
    }

    // "if seq is SEQ_RESULT and no result is present"
    private static void absentResultAnswers0() {
        PatienceDiff x = Check.filled(0, Check.lines(11), Check.lines(21), Check.lines(31, 11));
        resultAnswers0("never diffed", x);
        x.diff();
        resultAnswers0("diffed", x);
        Check.due("apply(0) fails", x.apply(0), PatienceDiff.APPLY_FAIL_BASE);
        resultAnswers0("failed", x);
        Check.due("apply(1)", x.apply(1), 1);
        x.diff();
        resultAnswers0("diffed after a result", x);
        for (int seq = PatienceDiff.SEQ_OLD; seq <= PatienceDiff.SEQ_BASE; seq++) {
            PatienceDiff y = applied();
            y.addLine(seq, 9);
            resultAnswers0("a line more in " + seq, y);
        }
        PatienceDiff cleared = applied();
        cleared.clear();
        resultAnswers0("cleared", cleared);
    }

    private static void resultAnswers0(String what, PatienceDiff x) {
        for (int index = -1; index <= 65; index++) {
            Check.due(what + ": line(3, " + index + ")", x.line(PatienceDiff.SEQ_RESULT, index), 0);
        }
    }

    // "or if index is not in 0..length-1 of that sequence (negative indexes included)"
    private static void indexesOutsideAnswer0() {
        for (State state : State.all()) {
            for (int seq = PatienceDiff.SEQ_OLD; seq <= PatienceDiff.SEQ_RESULT; seq++) {
                int length = Math.max(state.object().length(seq), 0);
                for (int t = 0; t < Check.ODD_INTS.length; t++) {
                    outsideAnswers0(state, seq, Check.ODD_INTS[t], length);
                }
                for (int index = length; index <= 70; index++) {
                    outsideAnswers0(state, seq, index, length);
                }
            }
        }
        // A line of before clear must not show past the end of the new one.
        PatienceDiff x = applied();
        x.clear();
        x.addLine(PatienceDiff.SEQ_OLD, 5);
        Check.due("line(0, 1) past one line", x.line(PatienceDiff.SEQ_OLD, 1), 0);
    }

    private static void outsideAnswers0(State state, int seq, int index, int length) {
        if (index < 0 || index >= length) {
            Check.due(state.name() + ": line(" + seq + ", " + index + ")", state.object().line(seq, index), 0);
        }
    }

    // "Note that 0 is also a legal line value."
    private static void zeroIsALegalLine() {
        PatienceDiff x = Check.filled(0, Check.lines(0), Check.lines(0, 0), Check.lines(0));
        Check.due("diff() of zeros", x.diff(), 1);
        Check.due("apply(0) on zeros", x.apply(0), 1);
        Check.sequence("zeros", x, PatienceDiff.SEQ_OLD, 0);
        Check.sequence("zeros", x, PatienceDiff.SEQ_NEW, 0, 0);
        Check.sequence("zeros", x, PatienceDiff.SEQ_BASE, 0);
        Check.sequence("zeros", x, PatienceDiff.SEQ_RESULT, 0, 0);
    }

    // "Nothing changes."
    private static void nothingChanges() {
        for (State state : State.all()) {
            Look.changesNothing(state.name() + ": line", state.object(), () -> {
                for (int seq : Check.ODD_INTS) {
                    for (int index : Check.ODD_INTS) {
                        state.object().line(seq, index);
                    }
                }
            });
        }
    }
}
