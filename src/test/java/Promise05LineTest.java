public final class Promise05LineTest {
    public static void main(String[] args) {
        PatienceDiff x = Check.filled(0, Check.lines(11, 0, 13), Check.lines(21, 22), Check.lines(31, 11, 0, 13));
        Check.sequence("fed", x, 0, 11, 0, 13);
        Check.sequence("fed", x, 1, 21, 22);
        Check.sequence("fed", x, 2, 31, 11, 0, 13);
        Check.due("line(3, 0) without a result", x.line(3, 0), 0);
        Check.due("diff()", x.diff(), 0);
        Check.due("line(3, 0) with a diff alone", x.line(3, 0), 0);
        Check.due("apply(1)", x.apply(1), 1);
        Check.sequence("applied", x, 3, 31, 21, 22);
        for (int index : Check.ODD_INTS) {
            for (int seq : Check.ODD_INTS) {
                int count = seq == 0 ? 3 : seq == 1 ? 2 : seq == 2 ? 4 : seq == 3 ? 3 : 0;
                if (index < 0 || index >= count) {
                    Check.due("line(" + seq + ", " + index + ")", x.line(seq, index), 0);
                }
            }
        }
        Check.sequence("after asking", x, 3, 31, 21, 22);
        x.addLine(PatienceDiff.SEQ_BASE, 1);
        Check.due("line(3, 0) of a result that went", x.line(3, 0), 0);
        x.clear();
        Check.due("line(0, 0) after clear", x.line(0, 0), 0);
        Check.end();
    }
}
