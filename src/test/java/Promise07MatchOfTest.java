public final class Promise07MatchOfTest {
    public static void main(String[] args) {
        PatienceDiff x = Check.filled(0, Check.lines(1, 2, 3, 4), Check.lines(1, 3, 9, 4), Check.lines());
        for (int i : Check.ODD_INTS) {
            Check.due("matchOf(" + i + ") without a diff", x.matchOf(i), PatienceDiff.MATCH_INVALID);
        }
        Check.due("diff()", x.diff(), 3);
        Check.matches("some deleted", x, 0, PatienceDiff.MATCH_DELETED, 1, 3);
        for (int i : Check.ODD_INTS) {
            if (i < 0 || i > 3) {
                Check.due("matchOf(" + i + ")", x.matchOf(i), PatienceDiff.MATCH_INVALID);
            }
        }
        x.addLine(PatienceDiff.SEQ_BASE, 5);
        Check.due("matchOf(3) after a base line", x.matchOf(3), 3);
        x.addLine(PatienceDiff.SEQ_NEW, 5);
        Check.due("matchOf(3) after a B line", x.matchOf(3), PatienceDiff.MATCH_INVALID);
        Check.due("diff() anew", x.diff(), 3);
        x.addLine(PatienceDiff.SEQ_OLD, 5);
        Check.due("matchOf(3) after an A line", x.matchOf(3), PatienceDiff.MATCH_INVALID);
        Check.due("diff() anew", x.diff(), 4);
        Check.matches("a line more on both sides", x, 0, PatienceDiff.MATCH_DELETED, 1, 3, 4);
        Check.end();
    }
}
