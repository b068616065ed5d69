// Each method below that stands under a sentence of the document is that sentence's test.
public final class Promise07MatchOfTest {
    public static void main(String[] args) {
        answersThePair();
        deletedLines();
        invalidWithoutADiff();
        invalidOutsideA();
        nothingChanges();
        pairsAgreeWithTheTexts();
        Check.end();
    }

    // "matchOf(i) answers, for A index i, the B index j of its pair"
    private static void answersThePair() {
        PatienceDiff x = Check.diffed(0, Check.lines(1, 2, 3, 4), Check.lines(7, 1, 3, 9, 4), Check.lines());
        Check.matches("some moved", x, 1, PatienceDiff.MATCH_DELETED, 2, 4);
        PatienceDiff ends = Check.diffed(0, Check.lines(5), Check.run(32, 5), Check.lines());
        Check.matches("the first of 32", ends, 0);
        ends = Check.diffed(0, Check.lines(36), Check.run(32, 5), Check.lines());
        Check.matches("the last of 32", ends, 31);
        PatienceDiff full = Check.diffed(0, Check.run(32, 0), Check.run(32, 0), Check.lines());
        Check.matches("32 pairs", full, Check.run(32, 0));
        x.addLine(PatienceDiff.SEQ_BASE, 5);
        Check.matches("after a base line", x, 1, PatienceDiff.MATCH_DELETED, 2, 4);
    }

    // "or MATCH_DELETED if A[i] is in no pair"
    private static void deletedLines() {
        PatienceDiff x = Check.diffed(0, Check.lines(1, 2), Check.lines(), Check.lines());
        Check.matches("B is empty", x, PatienceDiff.MATCH_DELETED, PatienceDiff.MATCH_DELETED);
        PatienceDiff y = Check.diffed(0, Check.lines(8, 1, 9), Check.lines(1), Check.lines());
        Check.matches("first and last", y, PatienceDiff.MATCH_DELETED, 0, PatienceDiff.MATCH_DELETED);
        PatienceDiff full = Check.diffed(0, Check.run(32, 0), Check.run(32, 100), Check.lines());
        for (int i = 0; i < 32; i++) {
            Check.due("nothing in common: matchOf(" + i + ")", full.matchOf(i), PatienceDiff.MATCH_DELETED);
        }
    }

    // "It answers MATCH_INVALID if no diff is present"
    private static void invalidWithoutADiff() {
        PatienceDiff x = new PatienceDiff(32, 0);
        allInvalid("fresh", x);
        Check.feed(x, PatienceDiff.SEQ_OLD, 1, 2, 3);
        Check.feed(x, PatienceDiff.SEQ_NEW, 1, 3);
        allInvalid("never diffed", x);
        Check.due("diff()", x.diff(), 2);
        Check.matches("diffed", x, 0, PatienceDiff.MATCH_DELETED, 1);
        x.addLine(PatienceDiff.SEQ_NEW, 5);
        allInvalid("a line more in B", x);
        Check.due("diff()", x.diff(), 2);
        x.addLine(PatienceDiff.SEQ_OLD, 5);
        allInvalid("a line more in A", x);
        Check.due("diff()", x.diff(), 3);
        Check.matches("diffed again", x, 0, PatienceDiff.MATCH_DELETED, 1, 2);
        x.clear();
        allInvalid("cleared", x);
    }

    private static void allInvalid(String what, PatienceDiff x) {
        for (int i : Check.ODD_INTS) {
            Check.due(what + ": matchOf(" + i + ")", x.matchOf(i), PatienceDiff.MATCH_INVALID);
        }
    }

    // "or i is not in 0..n-1"
    private static void invalidOutsideA() {
        for (int n = 0; n <= 32; n++) {
            PatienceDiff x = Check.diffed(0, Check.run(n, 0), Check.run(32, 0), Check.lines());
            for (int i : Check.ODD_INTS) {
                int want = i < 0 || i >= n ? PatienceDiff.MATCH_INVALID : i;
                Check.due(n + " lines: matchOf(" + i + ")", x.matchOf(i), want);
            }
            Check.matches(n + " lines", x, Check.run(n, 0));
        }
    }

    // "Nothing changes."
    private static void nothingChanges() {
        for (State state : State.all()) {
            Look.changesNothing(state.name() + ": matchOf", state.object(), () -> {
                for (int i : Check.ODD_INTS) {
                    state.object().matchOf(i);
                }
            });
        }
    }

    // "the number of i in 0..n-1 with matchOf(i) >= 0 equals the answer of the diff() call that made it,
    // line(SEQ_OLD, i) == line(SEQ_NEW, matchOf(i)) for each such i, and these j values strictly increase with i"
    private static void pairsAgreeWithTheTexts() {
        for (int step = 1; step <= 32; step++) {
            PatienceDiff x = new PatienceDiff(32, 0);
            for (int t = 0; t < 32; t++) {
                x.addLine(PatienceDiff.SEQ_OLD, t * step % 13);
                x.addLine(PatienceDiff.SEQ_NEW, t * (step + 3) % 11);
            }
            int k = x.diff();
            int pairs = 0;
            int last = -1;
            for (int i = 0; i < 32; i++) {
                int j = x.matchOf(i);
                if (j >= 0) {
                    pairs++;
                    Check.holds("step " + step + ": matchOf(" + i + ") > " + last, j > last);
                    Check.due("step " + step + ": the line of pair " + i, x.line(1, j), x.line(0, i));
                    last = j;
                }
            }
            Check.due("step " + step + ": pairs", pairs, k);
        }
    }
}
