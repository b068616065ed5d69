public final class Promise12ApplyTest {
    private static final int[] NONE = {};

    public static void main(String[] args) {
        withoutADiff();
        triesNearestPlacesFirst();
        clampsTheOffset();
        carriesTheShift();
        staysBehindTheCursor();
        staysInsideTheBase();
        placesHunksWithoutOldLines();
        withoutHunks();
        failureKeepsTheEarlierResult();
        baseEqualToAGivesB();
        changesNothingElse();
        Check.end();
    }

    private static void applied(String what, PatienceDiff x, int maxOffset, int[] places, int... result) {
        Check.due(what + ": apply(" + maxOffset + ")", x.apply(maxOffset), places.length);
        for (int h = 0; h < places.length; h++) {
            Check.due(what + ": hunkInfo(" + h + ", 5)", x.hunkInfo(h, PatienceDiff.F_APPLIED_AT), places[h]);
        }
        Check.sequence(what, x, PatienceDiff.SEQ_RESULT, result);
    }

    private static void fails(String what, PatienceDiff x, int maxOffset, int hunk) {
        Check.due(what + ": apply(" + maxOffset + ")", x.apply(maxOffset), PatienceDiff.APPLY_FAIL_BASE - hunk);
    }

    private static void withoutADiff() {
        PatienceDiff x = Check.filled(1, Check.lines(1), Check.lines(2), Check.lines(1));
        for (int maxOffset : Check.ODD_INTS) {
            Check.due("no diff: apply(" + maxOffset + ")", x.apply(maxOffset), PatienceDiff.APPLY_NO_DIFF);
        }
        Check.noResult("no diff", x);
        Check.noDiff("no diff", x);
    }

    // With context 0 the hunk replaces 5 by 6 and is expected at 2.
    private static PatienceDiff fiveToSix(int... base) {
        return Check.diffed(0, Check.lines(1, 1, 5), Check.lines(1, 1, 6), base);
    }

    private static void triesNearestPlacesFirst() {
        applied("expected place", fiveToSix(5, 5, 5, 5, 5), 8, Check.lines(2), 5, 5, 6, 5, 5);
        applied("one before", fiveToSix(5, 5, 0, 5, 5), 8, Check.lines(1), 5, 6, 0, 5, 5);
        applied("one after", fiveToSix(5, 0, 0, 5, 5), 8, Check.lines(3), 5, 0, 0, 6, 5);
        applied("two before", fiveToSix(5, 0, 0, 0, 5), 8, Check.lines(0), 6, 0, 0, 0, 5);
        applied("two after", fiveToSix(0, 0, 0, 0, 5), 8, Check.lines(4), 0, 0, 0, 0, 6);
        fails("out of reach", fiveToSix(5, 0, 0, 0, 5), 1, 0);
        fails("only the expected place", fiveToSix(0, 5, 0, 5), 0, 0);
        fails("nowhere", fiveToSix(0, 0, 0, 0, 0), 8, 0);
        fails("all lines must agree",
            Check.diffed(1, Check.lines(1, 5, 2), Check.lines(1, 6, 2), Check.lines(1, 5, 3)), 8, 0);
        fails("the first line too",
            Check.diffed(1, Check.lines(1, 5, 2), Check.lines(1, 6, 2), Check.lines(3, 5, 2)), 8, 0);
    }

    // The hunk is expected at 0 and its line stands at `distance`.
    private static PatienceDiff farOff(int distance) {
        int[] base = new int[distance + 1];
        base[distance] = 5;
        return Check.diffed(0, Check.lines(5), Check.lines(6), base);
    }

    private static void clampsTheOffset() {
        int[] offsets = {Integer.MIN_VALUE, -1, 0, 1, 5, 7, 8, 9, Integer.MAX_VALUE};
        int[] reaches = {0, 0, 0, 1, 5, 7, 8, 8, 8};
        for (int t = 0; t < offsets.length; t++) {
            for (int distance = 0; distance <= 10; distance++) {
                String call = "distance " + distance + ": apply(" + offsets[t] + ")";
                int want = distance <= reaches[t] ? 1 : PatienceDiff.APPLY_FAIL_BASE;
                Check.due(call, farOff(distance).apply(offsets[t]), want);
            }
        }
    }

    private static void carriesTheShift() {
        int[] a = {5, 1, 2, 7};
        int[] b = {6, 1, 2, 8};
        int[] base = {0, 0, 5, 1, 2, 0, 7};
        applied("2 off, then 1 more", Check.diffed(0, a, b, base), 2, Check.lines(2, 6), 0, 0, 6, 1, 2, 0, 8);
        fails("the first is 2 off", Check.diffed(0, a, b, base), 1, 0);
        // From A's own index the 7 at 3 would be nearest; from the shifted one it is the 7 at 6.
        applied("the shift leads", Check.diffed(0, a, b, Check.lines(0, 0, 5, 7, 0, 0, 7)), 3,
            Check.lines(2, 6), 0, 0, 6, 7, 0, 0, 8);
        // The shift is the last hunk's own, not a sum of all before it.
        applied("back again", Check.diffed(0, Check.lines(5, 1, 7, 2, 9), Check.lines(6, 1, 8, 2, 10),
            Check.lines(0, 5, 7, 0, 9)), 1, Check.lines(1, 2, 4), 0, 6, 8, 0, 10);
    }

    private static void staysBehindTheCursor() {
        int[] a = {5, 1, 5};
        int[] b = {6, 1, 7};
        applied("right at the cursor", Check.diffed(0, a, b, Check.lines(9, 5, 5)), 1, Check.lines(1, 2), 9, 6, 7);
        fails("a line used already", Check.diffed(0, a, b, Check.lines(9, 5, 9)), 8, 1);
        fails("the third hunk", Check.diffed(0, Check.lines(5, 1, 5, 1, 5), Check.lines(6, 1, 7, 1, 8),
            Check.lines(5, 5, 9)), 8, 2);
    }

    private static void staysInsideTheBase() {
        fails("empty base", Check.diffed(0, Check.lines(5), Check.lines(6), NONE), 8, 0);
        PatienceDiff pastTheEnd = Check.diffed(0, Check.lines(5, 6), Check.lines(7), Check.lines(0, 5));
        fails("one line past the end", pastTheEnd, 8, 0);
        // Line 2 of base is gone with clear, and must not be seen again.
        PatienceDiff stale = Check.filled(0, NONE, NONE, Check.lines(0, 5, 6));
        stale.clear();
        Check.feed(stale, PatienceDiff.SEQ_OLD, 5, 6);
        Check.feed(stale, PatienceDiff.SEQ_NEW, 7);
        Check.feed(stale, PatienceDiff.SEQ_BASE, 0, 5);
        Check.due("diff()", stale.diff(), 0);
        fails("a line of before", stale, 8, 0);
        applied("up to the end", Check.diffed(0, Check.lines(5, 6), Check.lines(7), Check.lines(0, 5, 6)), 1,
            Check.lines(1), 0, 7);
        int[] full = new int[32];
        full[31] = 5;
        int[] want = new int[32];
        want[31] = 6;
        int[] a = new int[24];
        int[] b = new int[24];
        a[23] = 5;
        b[23] = 6;
        applied("the last line of a full base", Check.diffed(0, a, b, full), 8, Check.lines(31), want);
    }

    private static void placesHunksWithoutOldLines() {
        applied("into an empty base", Check.diffed(3, NONE, Check.lines(4, 5), NONE), 0, Check.lines(0), 4, 5);
        applied("before all", Check.diffed(3, NONE, Check.lines(4), Check.lines(7)), 8, Check.lines(0), 4, 7);
        int[] a = {1, 2, 3};
        int[] b = {1, 2, 3, 4};
        applied("any lines do", Check.diffed(0, a, b, Check.lines(9, 9, 9, 9)), 0, Check.lines(3), 9, 9, 9, 4, 9);
        applied("at the end", Check.diffed(0, a, b, Check.lines(9, 9, 9)), 0, Check.lines(3), 9, 9, 9, 4);
        applied("back to the end", Check.diffed(0, a, b, Check.lines(9)), 2, Check.lines(1), 9, 4);
        fails("too far from the end", Check.diffed(0, a, b, Check.lines(9)), 1, 0);
        // The delete ends at 2, past where the insert is expected: never before the cursor.
        applied("not before the cursor", Check.diffed(0, Check.lines(5, 1), Check.lines(1, 2), Check.lines(0, 5)), 1,
            Check.lines(1, 2), 0, 2);
    }

    private static void withoutHunks() {
        PatienceDiff x = Check.diffed(3, Check.lines(1, 2), Check.lines(1, 2), Check.lines(8, 9));
        applied("a copy of base", x, 0, NONE, 8, 9);
        x.addLine(PatienceDiff.SEQ_BASE, 10);
        Check.noResult("before the next apply", x);
        applied("a copy of the longer base", x, Integer.MAX_VALUE, NONE, 8, 9, 10);
        applied("all empty", Check.diffed(0, NONE, NONE, NONE), 5, NONE);
    }

    private static void failureKeepsTheEarlierResult() {
        int[] a = {5, 1, 7};
        int[] b = {6, 1, 8};
        PatienceDiff x = Check.diffed(0, a, b, Check.lines(5, 0, 0, 7));
        fails("nothing yet", x, 0, 1);
        Check.noResult("failed without a result", x);
        applied("far enough", x, 1, Check.lines(0, 3), 6, 0, 0, 8);
        fails("not far enough", x, 0, 1);
        Check.due("hunkInfo(0, 5) stays", x.hunkInfo(0, 5), 0);
        Check.due("hunkInfo(1, 5) stays", x.hunkInfo(1, 5), 3);
        Check.sequence("the result stays", x, PatienceDiff.SEQ_RESULT, 6, 0, 0, 8);
        Check.due("hunkCount() stays", x.hunkCount(), 2);

        // No place within 1 for the second hunk, once the first went to 1; and another way within 8.
        PatienceDiff y = Check.diffed(0, a, b, Check.lines(0, 5, 0, 0, 0, 7));
        applied("wide", y, 8, Check.lines(1, 5), 0, 6, 0, 0, 0, 8);
        fails("narrow", y, 1, 1);
        Check.due("hunkInfo(0, 5) of the wide one", y.hunkInfo(0, 5), 1);
        Check.due("hunkInfo(1, 5) of the wide one", y.hunkInfo(1, 5), 5);
        Check.sequence("the wide one stays", y, PatienceDiff.SEQ_RESULT, 0, 6, 0, 0, 0, 8);
        applied("wide again", y, 2, Check.lines(1, 5), 0, 6, 0, 0, 0, 8);
    }

    private static void baseEqualToAGivesB() {
        int[] a = {1, 2, 1, 3, 4, 4, 5, 1};
        int[] b = {2, 1, 1, 3, 9, 4, 1, 5};
        for (int context = 0; context <= 3; context++) {
            for (int maxOffset : Check.ODD_INTS) {
                PatienceDiff x = Check.diffed(context, a, b, a);
                Check.due("base is A: apply(" + maxOffset + ")", x.apply(maxOffset), x.hunkCount());
                Check.sequence("base is A", x, PatienceDiff.SEQ_RESULT, b);
            }
        }
    }

    private static void changesNothingElse() {
        PatienceDiff x = Check.diffed(1, Check.lines(1, 2), Check.lines(1, 3), Check.lines(0, 1, 2));
        applied("once", x, 1, Check.lines(1), 0, 1, 3);
        Check.sequence("A stays", x, PatienceDiff.SEQ_OLD, 1, 2);
        Check.sequence("B stays", x, PatienceDiff.SEQ_NEW, 1, 3);
        Check.sequence("base stays", x, PatienceDiff.SEQ_BASE, 0, 1, 2);
        Check.matches("the diff stays", x, 0, -1);
        Check.script("the diff stays", x, 0, 1, 2);
        Check.hunk("the diff stays", x, 0, 0, 2, 0, 2, 3, 1);
        applied("twice", x, 1, Check.lines(1), 0, 1, 3);
    }
}
