import java.util.Arrays;

// The call itself: what it answers, what it replaces and what it leaves alone.
// Each method below that stands under a sentence of the document is that sentence's test.
public final class Promise06DiffTest {
    private static final int[] NONE = {};

    public static void main(String[] args) {
        replacesAnEarlierDiff();
        resultBecomesAbsent();
        worksOnEmptyTexts();
        isNeverRefused();
        answersTheNumberOfPairs();
        leavesTheTextsAlone();
        leavesTheSettingsAlone();
        dependsOnAAndBOnly();
        Check.end();
    }

    // "computes the diff of the current A and B, replacing any earlier diff"
    private static void replacesAnEarlierDiff() {
        int[] a = new int[32];
        int[] b = new int[32];
        for (int t = 0; t < 32; t++) {
            a[t] = t * 7 % 19;
            b[t] = t * 5 % 17;
        }
        PatienceDiff x = new PatienceDiff(32, 1);
        for (int length = 1; length <= 32; length++) {
            Check.feedMore(x, PatienceDiff.SEQ_OLD, a[length - 1]);
            sameAsAtOnce(x, Arrays.copyOf(a, length), Arrays.copyOf(b, length - 1));
            Check.feedMore(x, PatienceDiff.SEQ_NEW, b[length - 1]);
            sameAsAtOnce(x, Arrays.copyOf(a, length), Arrays.copyOf(b, length));
        }
        PatienceDiff y = Check.diffed(1, Check.lines(1, 2), Check.lines(1, 3), NONE);
        y.addLine(PatienceDiff.SEQ_NEW, 2);
        Check.due("diff() of more", y.diff(), 2);
        Check.matches("diff() of more", y, 0, 2);
        Check.script("diff() of more", y, 0, 2, 0);
        Check.hunk("diff() of more", y, 0, 0, 2, 0, 3, 3);
    }

    private static void sameAsAtOnce(PatienceDiff x, int[] a, int[] b) {
        PatienceDiff atOnce = Check.filled(1, a, b, NONE);
        String what = a.length + " and " + b.length + " lines";
        Check.due(what + ": diff()", x.diff(), atOnce.diff());
        Look.same(what, x, atOnce);
    }

    // "the result becomes absent"
    private static void resultBecomesAbsent() {
        for (State state : State.all()) {
            state.object().diff();
            Check.noResult(state.name() + ", diffed", state.object());
        }
        PatienceDiff x = Check.diffed(1, Check.lines(1, 2), Check.lines(1, 3), Check.lines(1, 2));
        Check.due("apply(0)", x.apply(0), 1);
        Check.due("diff() of the same", x.diff(), 1);
        Check.noResult("diff() of the same", x);
        Check.due("apply(0) again", x.apply(0), 1);
        Check.sequence("apply(0) again", x, PatienceDiff.SEQ_RESULT, 1, 3);
    }

    // "works on any A and B, empty ones included"
    private static void worksOnEmptyTexts() {
        for (int context = 0; context <= 3; context++) {
            PatienceDiff both = Check.filled(context, NONE, NONE, NONE);
            Check.due("both empty: diff()", both.diff(), 0);
            Check.script("both empty", both);
            Check.due("both empty: hunkCount()", both.hunkCount(), 0);
            for (int length : Check.lines(1, 2, 32)) {
                PatienceDiff noA = Check.filled(context, NONE, Check.run(length, 3), NONE);
                Check.due("A empty: diff()", noA.diff(), 0);
                Check.due("A empty: hunkCount()", noA.hunkCount(), 1);
                Check.hunk("A empty", noA, 0, 0, 0, 0, length, length);
                PatienceDiff noB = Check.filled(context, Check.run(length, 3), NONE, NONE);
                Check.due("B empty: diff()", noB.diff(), 0);
                Check.due("B empty: hunkCount()", noB.hunkCount(), 1);
                Check.hunk("B empty", noB, 0, 0, length, 0, 0, length);
            }
        }
    }

    // "It is never refused"
    private static void isNeverRefused() {
        for (State state : State.all()) {
            Check.holds(state.name() + ": diff() is not refused", state.object().diff() >= 0);
            Check.holds(state.name() + ": there is a diff", state.object().scriptLength() >= 0);
            Check.holds(state.name() + ": and hunks", state.object().hunkCount() >= 0);
            int script = state.object().scriptLength();
            Check.holds(state.name() + ": diff() again", state.object().diff() >= 0);
            Check.due(state.name() + ": scriptLength() again", state.object().scriptLength(), script);
        }
    }

    // "It answers k, the number of matched pairs."
    private static void answersTheNumberOfPairs() {
        for (int k = 0; k <= 32; k++) {
            int[] b = Check.run(32, 100);
            System.arraycopy(Check.run(k, 0), 0, b, 32 - k, k);
            PatienceDiff x = Check.filled(0, Check.run(32, k - 32), b, NONE);
            Check.due(k + " lines in common: diff()", x.diff(), k);
        }
    }

    // "A, B, base, CAP and C do not change." (A, B and base)
    private static void leavesTheTextsAlone() {
        for (int n : Check.lines(0, 1, 20, 32)) {
            PatienceDiff x = Check.filled(2, Check.run(n, 10), Check.run(32 - n, 12), Check.run(n, 70));
            for (int round = 0; round < 2; round++) {
                x.diff();
                Check.sequence("A stays", x, PatienceDiff.SEQ_OLD, Check.run(n, 10));
                Check.sequence("B stays", x, PatienceDiff.SEQ_NEW, Check.run(32 - n, 12));
                Check.sequence("base stays", x, PatienceDiff.SEQ_BASE, Check.run(n, 70));
            }
        }
    }

    // "A, B, base, CAP and C do not change." (CAP and C)
    private static void leavesTheSettingsAlone() {
        PatienceDiff x = new PatienceDiff(5, 1);
        for (int t = 0; t < 5; t++) {
            x.diff();
            Check.feedMore(x, PatienceDiff.SEQ_OLD, t);
            x.diff();
            Check.feedMore(x, PatienceDiff.SEQ_NEW, t == 2 ? 99 : t);
            x.diff();
            Check.feedMore(x, PatienceDiff.SEQ_BASE, t);
        }
        for (int seq = PatienceDiff.SEQ_OLD; seq <= PatienceDiff.SEQ_BASE; seq++) {
            Check.due("full after diffs: addLine(" + seq + ", 1)", x.addLine(seq, 1), PatienceDiff.REFUSED);
        }
        Check.due("diff()", x.diff(), 4);
        Check.hunk("still context 1", x, 0, 1, 3, 1, 3, 4);
    }

    // "The diff depends on A and B only."
    private static void dependsOnAAndBOnly() {
        int[] a = {1, 2, 3, 2, 4, 5};
        int[] b = {2, 3, 9, 2, 5, 4};
        PatienceDiff plain = Check.diffed(1, a, b, NONE);
        for (int capacity : Check.lines(6, 7, 31, 32)) {
            PatienceDiff x = new PatienceDiff(capacity, 1);
            // Another diff before, gone with clear.
            Check.feed(x, PatienceDiff.SEQ_OLD, 5, 6, 7);
            Check.feed(x, PatienceDiff.SEQ_NEW, 7, 5, 6);
            x.diff();
            x.clear();
            Check.feed(x, PatienceDiff.SEQ_NEW, b);
            Check.feed(x, PatienceDiff.SEQ_OLD, a);
            x.diff();
            Look.same("capacity " + capacity, x, plain);
            Check.feed(x, PatienceDiff.SEQ_BASE, a);
            x.diff();
            Check.due("apply(0) with a base", x.apply(0), plain.hunkCount());
            samePairsAndScript("base and result", x, plain);
        }
        for (int context = 0; context <= 3; context++) {
            samePairsAndScript("context " + context, Check.diffed(context, a, b, b), plain);
        }
        int[] twos = new int[32];
        Arrays.fill(twos, 2);
        for (int earlier = 0; earlier < 4; earlier++) {
            notOnEarlierTexts(earlier, Check.lines(1, 1), Check.lines(2, 1, 3));
            notOnEarlierTexts(earlier, Check.lines(1, 1, 1, 2, 2), Check.lines(2, 2, 1, 1, 1));
            notOnEarlierTexts(earlier, Check.lines(3, 1, 1, 2, 2), Check.lines(4, 2, 2, 1, 1));
            notOnEarlierTexts(earlier, Check.lines(1, 2, 3, 4), Check.lines(3, 4, 1, 2));
            notOnEarlierTexts(earlier, twos, twos);
            notOnEarlierTexts(earlier, NONE, NONE);
        }
    }

    // Full texts: without a line that is unique, two ways crossed, and with many gaps.
    private static void feedEarlierTexts(PatienceDiff x, int which) {
        for (int t = 0; t < 32; t++) {
            int[] a = {t % 2, t, t, t % 2 == 1 ? t : 100 + t};
            int[] b = {(t + 1) % 2, t ^ 1, 31 - t, t % 2 == 1 ? t : 200 + t};
            x.addLine(PatienceDiff.SEQ_OLD, a[which]);
            x.addLine(PatienceDiff.SEQ_NEW, b[which]);
        }
    }

    private static void notOnEarlierTexts(int earlier, int[] a, int[] b) {
        PatienceDiff x = new PatienceDiff(32, 1);
        feedEarlierTexts(x, earlier);
        x.diff();
        x.clear();
        Check.feed(x, PatienceDiff.SEQ_OLD, a);
        Check.feed(x, PatienceDiff.SEQ_NEW, b);
        PatienceDiff fresh = Check.filled(1, a, b, NONE);
        Check.due("after a diff of other texts: diff()", x.diff(), fresh.diff());
        Look.same("after a diff of other texts", x, fresh);
    }

    private static void samePairsAndScript(String what, PatienceDiff x, PatienceDiff want) {
        for (int i = 0; i < 6; i++) {
            Check.due(what + ": matchOf(" + i + ")", x.matchOf(i), want.matchOf(i));
        }
        Check.due(what + ": scriptLength()", x.scriptLength(), want.scriptLength());
        for (int p = 0; p < want.scriptLength(); p++) {
            Check.due(what + ": scriptKind(" + p + ")", x.scriptKind(p), want.scriptKind(p));
        }
    }
}
