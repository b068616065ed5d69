public final class Promise01ConstructionTest {
    public static void main(String[] args) {
        int[] capacities = {Integer.MIN_VALUE, -1, 0, 1, 2, 16, 31, 32, 33, 64, Integer.MAX_VALUE};
        int[] kept = {1, 1, 1, 1, 2, 16, 31, 32, 32, 32, 32};
        for (int t = 0; t < capacities.length; t++) {
            capacityIs(capacities[t], kept[t]);
        }
        int[] contexts = {Integer.MIN_VALUE, -1, 0, 1, 2, 3, 4, Integer.MAX_VALUE};
        int[] shown = {0, 0, 0, 1, 2, 3, 3, 3};
        for (int t = 0; t < contexts.length; t++) {
            contextIs(contexts[t], shown[t]);
        }
        startIsEmpty();
        Check.end();
    }

    private static void capacityIs(int capacity, int want) {
        PatienceDiff x = new PatienceDiff(capacity, 1);
        for (int seq = 0; seq <= 2; seq++) {
            int taken = 0;
            while (taken < 100 && x.addLine(seq, taken) >= 0) {
                taken++;
            }
            Check.due("lines that capacity " + capacity + " takes in " + seq, taken, want);
        }
    }

    private static void contextIs(int context, int want) {
        PatienceDiff x = new PatienceDiff(32, context);
        Check.feed(x, PatienceDiff.SEQ_OLD, 1, 2, 3, 4, 5, 6, 7, 8, 9, 10);
        Check.feed(x, PatienceDiff.SEQ_NEW, 1, 2, 3, 4, 5, 50, 6, 7, 8, 9, 10);
        x.diff();
        Check.due("context " + context + ": F_SIZE", x.hunkInfo(0, PatienceDiff.F_SIZE), 1 + 2 * want);
        Check.due("context " + context + ": F_A_START", x.hunkInfo(0, PatienceDiff.F_A_START), 5 - want);
    }

    private static void startIsEmpty() {
        PatienceDiff x = new PatienceDiff(4, 2);
        for (int seq = 0; seq <= 2; seq++) {
            Check.sequence("fresh", x, seq);
        }
        Check.noDiff("fresh", x);
        Check.noResult("fresh", x);
    }
}
