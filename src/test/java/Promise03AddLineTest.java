public final class Promise03AddLineTest {
    public static void main(String[] args) {
        appendsAnyInt();
        refusesOtherSequences();
        refusesWhenFull();
        refusalChangesNothing();
        successDropsWhatItMust();
        Check.end();
    }

    private static void appendsAnyInt() {
        int[] hashes = {0, -1, Integer.MIN_VALUE, Integer.MAX_VALUE, 5, 5};
        for (int seq = 0; seq <= 2; seq++) {
            PatienceDiff x = new PatienceDiff(32, 0);
            Check.feed(x, seq, hashes);
            Check.sequence("any int", x, seq, hashes);
            for (int other = 0; other <= 2; other++) {
                if (other != seq) {
                    Check.sequence("the others stay", x, other);
                }
            }
        }
    }

    private static void refusesOtherSequences() {
        PatienceDiff x = new PatienceDiff(32, 0);
        for (int seq : Check.ODD_INTS) {
            if (seq < 0 || seq > 2) {
                Check.due("addLine(" + seq + ", 1)", x.addLine(seq, 1), PatienceDiff.REFUSED);
            }
        }
        for (int seq = 0; seq <= 2; seq++) {
            Check.sequence("after refusals", x, seq);
        }
    }

    private static void refusesWhenFull() {
        for (int seq = 0; seq <= 2; seq++) {
            PatienceDiff x = new PatienceDiff(2, 0);
            Check.feed(x, seq, 4, 5);
            Check.due("full addLine(" + seq + ", 6)", x.addLine(seq, 6), PatienceDiff.REFUSED);
            Check.sequence("full", x, seq, 4, 5);
            for (int other = 0; other <= 2; other++) {
                if (other != seq) {
                    Check.due("room in " + other, x.addLine(other, 7), 1);
                }
            }
        }
    }

    private static PatienceDiff applied(int capacity) {
        PatienceDiff x = new PatienceDiff(capacity, 0);
        Check.feed(x, PatienceDiff.SEQ_OLD, 1, 2);
        Check.feed(x, PatienceDiff.SEQ_NEW, 1, 3);
        Check.feed(x, PatienceDiff.SEQ_BASE, 1, 2);
        Check.due("diff()", x.diff(), 1);
        Check.due("apply(0)", x.apply(0), 1);
        return x;
    }

    private static void refusalChangesNothing() {
        PatienceDiff x = applied(2);
        int[] refused = {0, 1, 2, 3, 4, -1, Integer.MIN_VALUE, Integer.MAX_VALUE};
        for (int seq : refused) {
            Check.due("addLine(" + seq + ", 8)", x.addLine(seq, 8), PatienceDiff.REFUSED);
            Check.due("matchOf(0)", x.matchOf(0), 0);
            Check.due("hunkCount()", x.hunkCount(), 1);
            Check.due("hunkInfo(0, 5)", x.hunkInfo(0, 5), 1);
            Check.sequence("refused", x, PatienceDiff.SEQ_OLD, 1, 2);
            Check.sequence("refused", x, PatienceDiff.SEQ_NEW, 1, 3);
            Check.sequence("refused", x, PatienceDiff.SEQ_BASE, 1, 2);
            Check.sequence("refused", x, PatienceDiff.SEQ_RESULT, 1, 3);
        }
    }

    private static void successDropsWhatItMust() {
        for (int seq = PatienceDiff.SEQ_OLD; seq <= PatienceDiff.SEQ_NEW; seq++) {
            PatienceDiff x = applied(3);
            Check.due("addLine(" + seq + ", 8)", x.addLine(seq, 8), 3);
            Check.noDiff("a line more in " + seq, x);
            Check.noResult("a line more in " + seq, x);
        }
        PatienceDiff x = applied(3);
        Check.due("addLine(2, 8)", x.addLine(PatienceDiff.SEQ_BASE, 8), 3);
        Check.noResult("a line more in base", x);
        Check.matches("a line more in base", x, 0, -1);
        Check.script("a line more in base", x, 0, 1, 2);
        Check.hunk("a line more in base", x, 0, 1, 1, 1, 1, 2, -1);
        Check.due("apply(0) again", x.apply(0), 1);
        Check.sequence("apply again", x, PatienceDiff.SEQ_RESULT, 1, 3, 8);
    }
}
