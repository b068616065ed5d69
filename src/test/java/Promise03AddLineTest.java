// Each method below that stands under a sentence of the document is that sentence's test.
public final class Promise03AddLineTest {
    public static void main(String[] args) {
        anyIntIsALine();
        otherSequencesAreRefused();
        theResultIsReadOnly();
        fullSequencesAreRefused();
        refusalChangesNothing();
        answersTheNewLength();
        resultBecomesAbsent();
        diffBecomesAbsent();
        baseLeavesTheDiff();
        otherSequencesStay();
        Check.end();
    }

    // "appends line hash (any int) to sequence seq"
    private static void anyIntIsALine() {
        for (int seq = PatienceDiff.SEQ_OLD; seq <= PatienceDiff.SEQ_BASE; seq++) {
            PatienceDiff x = new PatienceDiff(32, 0);
            Check.feed(x, seq, Check.ODD_INTS);
            Check.sequence("any int", x, seq, Check.ODD_INTS);
            Check.feedMore(x, seq, 5, 5, 0, 0);
            Check.due("the same line again", x.line(seq, Check.ODD_INTS.length + 1), 5);
        }
    }

    // "seq is not 0, 1 or 2 (this includes SEQ_RESULT and every other int) -> REFUSED"
    private static void otherSequencesAreRefused() {
        for (State state : State.all()) {
            for (int seq : Check.ODD_INTS) {
                if (seq < 0 || seq > 2) {
                    Check.due(state.name() + ": addLine(" + seq + ", 1)", state.object().addLine(seq, 1),
                        PatienceDiff.REFUSED);
                }
            }
        }
    }

    // "SEQ_RESULT = 3 (the result of the last successful apply; read-only)"
    private static void theResultIsReadOnly() {
        PatienceDiff x = Check.diffed(0, Check.lines(1), Check.lines(2), Check.lines(1, 7));
        Check.due("addLine(3, 9) without a result", x.addLine(PatienceDiff.SEQ_RESULT, 9), PatienceDiff.REFUSED);
        Check.due("apply(0)", x.apply(0), 1);
        Check.due("addLine(3, 9) with a result", x.addLine(PatienceDiff.SEQ_RESULT, 9), PatienceDiff.REFUSED);
        Check.sequence("the result stays", x, PatienceDiff.SEQ_RESULT, 2, 7);
    }

    // "That sequence already holds CAP lines -> REFUSED"
    private static void fullSequencesAreRefused() {
        for (int capacity = 1; capacity <= 32; capacity++) {
            for (int seq = PatienceDiff.SEQ_OLD; seq <= PatienceDiff.SEQ_BASE; seq++) {
                PatienceDiff x = new PatienceDiff(capacity, 0);
                Check.feed(x, seq, Check.run(capacity, 50));
                for (int hash : Check.ODD_INTS) {
                    Check.due("full: addLine(" + seq + ", " + hash + ")", x.addLine(seq, hash), PatienceDiff.REFUSED);
                }
                Check.sequence("full", x, seq, Check.run(capacity, 50));
                for (int other = PatienceDiff.SEQ_OLD; other <= PatienceDiff.SEQ_BASE; other++) {
                    if (other != seq) {
                        Check.due("full is " + seq + ", room in " + other, x.addLine(other, 7), 1);
                    }
                }
            }
        }
    }

    // "A refused call changes nothing at all."
    private static void refusalChangesNothing() {
        for (State state : State.all()) {
            for (int seq : Check.lines(Integer.MIN_VALUE, -1, 3, 4, Integer.MAX_VALUE)) {
                refuses(state, seq);
            }
            for (int seq = PatienceDiff.SEQ_OLD; seq <= PatienceDiff.SEQ_BASE; seq++) {
                if (state.object().length(seq) == state.capacity()) {
                    refuses(state, seq);
                }
            }
        }
        PatienceDiff x = applied(2);
        for (int seq = PatienceDiff.SEQ_OLD; seq <= PatienceDiff.SEQ_BASE; seq++) {
            refuses(new State("full and applied", 2, 0, x), seq);
        }
        Check.due("hunkInfo(0, 5) stays", x.hunkInfo(0, PatienceDiff.F_APPLIED_AT), 1);
        Check.sequence("the result stays", x, PatienceDiff.SEQ_RESULT, 1, 3);
    }

    private static void refuses(State state, int seq) {
        String call = state.name() + ": addLine(" + seq + ", 8)";
        Look.changesNothing(call, state.object(),
            () -> Check.due(call, state.object().addLine(seq, 8), PatienceDiff.REFUSED));
    }

    private static PatienceDiff applied(int capacity) {
        PatienceDiff x = new PatienceDiff(capacity, 0);
        Check.feed(x, PatienceDiff.SEQ_OLD, 1, 2);
        Check.feed(x, PatienceDiff.SEQ_NEW, 1, 3);
        Check.feed(x, PatienceDiff.SEQ_BASE, 1, 2);
        Check.due("diff()", x.diff(), 1);
        Check.due("apply(0)", x.apply(0), 1);
        return x;
    }

    // "the line is appended at the end of that sequence and the call answers its new length (1..CAP)"
    private static void answersTheNewLength() {
        for (int capacity = 1; capacity <= 32; capacity++) {
            PatienceDiff x = new PatienceDiff(capacity, 0);
            for (int length = 1; length <= capacity; length++) {
                for (int seq = PatienceDiff.SEQ_OLD; seq <= PatienceDiff.SEQ_BASE; seq++) {
                    int hash = 100 * seq + length;
                    Check.due("addLine(" + seq + ", " + hash + ")", x.addLine(seq, hash), length);
                    Check.sequence("capacity " + capacity, x, seq, Check.run(length, 100 * seq + 1));
                }
            }
        }
    }

    // "After a successful call the result becomes absent"
    private static void resultBecomesAbsent() {
        for (int seq = PatienceDiff.SEQ_OLD; seq <= PatienceDiff.SEQ_BASE; seq++) {
            PatienceDiff x = applied(3);
            Check.due("addLine(" + seq + ", 8)", x.addLine(seq, 8), 3);
            Check.noResult("a line more in " + seq, x);
            PatienceDiff y = new PatienceDiff(1, 0);
            Check.due("diff() of nothing", y.diff(), 0);
            Check.due("apply(0) of nothing", y.apply(0), 0);
            Check.due("addLine(" + seq + ", 8) to nothing", y.addLine(seq, 8), 1);
            Check.noResult("the first line of " + seq, y);
        }
    }

    // "if seq is SEQ_OLD or SEQ_NEW the diff becomes absent too"
    private static void diffBecomesAbsent() {
        for (int seq = PatienceDiff.SEQ_OLD; seq <= PatienceDiff.SEQ_NEW; seq++) {
            PatienceDiff x = applied(3);
            Check.due("addLine(" + seq + ", 8)", x.addLine(seq, 8), 3);
            Check.noDiff("a line more in " + seq, x);
            PatienceDiff y = new PatienceDiff(1, 0);
            Check.due("diff() of nothing", y.diff(), 0);
            Check.due("addLine(" + seq + ", 8) to nothing", y.addLine(seq, 8), 1);
            Check.noDiff("the first line of " + seq, y);
        }
    }

    // "A successful call with SEQ_BASE leaves the diff as it was."
    private static void baseLeavesTheDiff() {
        PatienceDiff x = applied(3);
        Check.due("addLine(2, 8)", x.addLine(PatienceDiff.SEQ_BASE, 8), 3);
        Check.matches("a line more in base", x, 0, -1);
        Check.script("a line more in base", x, 0, 1, 2);
        Check.due("hunkCount()", x.hunkCount(), 1);
        Check.hunk("a line more in base", x, 0, 1, 1, 1, 1, 2, -1);
        Check.due("hunkLineHash(0, 1)", x.hunkLineHash(0, 1), 3);
        Check.due("apply(0) again", x.apply(0), 1);
        Check.sequence("apply again", x, PatienceDiff.SEQ_RESULT, 1, 3, 8);
        // An absent diff stays absent as well.
        PatienceDiff y = Check.filled(0, Check.lines(1, 2), Check.lines(1, 3), Check.lines(1));
        Check.due("addLine(2, 2)", y.addLine(PatienceDiff.SEQ_BASE, 2), 2);
        Check.noDiff("never diffed", y);
    }

    // "The other two sequences never change."
    private static void otherSequencesStay() {
        int[][] lines = {{1, 2}, {1, 3}, {1, 2}};
        for (int seq = PatienceDiff.SEQ_OLD; seq <= PatienceDiff.SEQ_BASE; seq++) {
            PatienceDiff x = applied(32);
            Check.feedMore(x, seq, Check.run(30, 70));
            for (int other = PatienceDiff.SEQ_OLD; other <= PatienceDiff.SEQ_BASE; other++) {
                if (other != seq) {
                    Check.sequence("30 lines more in " + seq, x, other, lines[other]);
                }
            }
        }
    }
}
