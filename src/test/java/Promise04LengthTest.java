public final class Promise04LengthTest {
    public static void main(String[] args) {
        PatienceDiff x = Check.filled(1, Check.lines(1), Check.lines(1, 2), Check.lines(1, 7, 8));
        Check.due("length(0)", x.length(0), 1);
        Check.due("length(1)", x.length(1), 2);
        Check.due("length(2)", x.length(2), 3);
        Check.due("length(3)", x.length(3), PatienceDiff.REFUSED);
        x.diff();
        Check.due("length(3) after diff", x.length(3), PatienceDiff.REFUSED);
        Check.due("apply(0)", x.apply(0), 1);
        Check.due("length(3) after apply", x.length(3), 4);
        for (int seq : Check.ODD_INTS) {
            if (seq < 0 || seq > 3) {
                Check.due("length(" + seq + ")", x.length(seq), PatienceDiff.REFUSED);
            }
        }
        Check.due("length(3) after asking", x.length(3), 4);
        x.diff();
        Check.due("length(3) after another diff", x.length(3), PatienceDiff.REFUSED);
        resultOutgrowsCapacity();
        resultOfNothing();
        Check.end();
    }

    private static void resultOutgrowsCapacity() {
        PatienceDiff x = new PatienceDiff(1, 0);
        Check.feed(x, PatienceDiff.SEQ_NEW, 5);
        Check.feed(x, PatienceDiff.SEQ_BASE, 7);
        Check.due("diff()", x.diff(), 0);
        Check.due("apply(0)", x.apply(0), 1);
        Check.sequence("capacity 1", x, PatienceDiff.SEQ_RESULT, 5, 7);

        PatienceDiff y = new PatienceDiff(32, 0);
        int[] want = new int[64];
        for (int t = 0; t < 32; t++) {
            y.addLine(PatienceDiff.SEQ_NEW, 100 + t);
            y.addLine(PatienceDiff.SEQ_BASE, 200 + t);
            want[t] = 100 + t;
            want[32 + t] = 200 + t;
        }
        Check.due("diff() of 0 and 32 lines", y.diff(), 0);
        Check.due("apply(0) on 32 lines", y.apply(0), 1);
        Check.sequence("capacity 32", y, PatienceDiff.SEQ_RESULT, want);
    }

    private static void resultOfNothing() {
        PatienceDiff x = Check.diffed(0, Check.lines(4, 5), Check.lines(), Check.lines(4, 5));
        Check.due("apply(0) that deletes all", x.apply(0), 1);
        Check.due("length(3) of an empty result", x.length(3), 0);
    }
}
