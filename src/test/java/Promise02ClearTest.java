// Each method below that stands under a sentence of the document is that sentence's test.
public final class Promise02ClearTest {
    public static void main(String[] args) {
        emptiesTheSequences();
        diffBecomesAbsent();
        resultBecomesAbsent();
        keepsTheCapacity();
        keepsTheContext();
        behavesLikeAFreshOne();
        Check.end();
    }

    // "clear() empties A, B and base"
    private static void emptiesTheSequences() {
        for (State state : State.all()) {
            PatienceDiff x = state.object();
            x.clear();
            for (int seq = PatienceDiff.SEQ_OLD; seq <= PatienceDiff.SEQ_BASE; seq++) {
                Check.sequence("cleared: " + state.name(), x, seq);
                Check.due("cleared: " + state.name() + ": line(" + seq + ", 0)", x.line(seq, 0), 0);
            }
        }
    }

    // "the diff becomes absent"
    private static void diffBecomesAbsent() {
        for (State state : State.all()) {
            state.object().clear();
            Check.noDiff("cleared: " + state.name(), state.object());
        }
        // Without clear, the diff of two empty texts would still be there.
        PatienceDiff x = new PatienceDiff(3, 0);
        Check.due("diff() of nothing", x.diff(), 0);
        x.clear();
        Check.noDiff("cleared: a diff of nothing", x);
    }

    // "and the result becomes absent"
    private static void resultBecomesAbsent() {
        for (State state : State.all()) {
            state.object().clear();
            Check.noResult("cleared: " + state.name(), state.object());
        }
        PatienceDiff x = new PatienceDiff(3, 0);
        Check.due("diff() of nothing", x.diff(), 0);
        Check.due("apply(0) of nothing", x.apply(0), 0);
        Check.due("length(3) of an empty result", x.length(PatienceDiff.SEQ_RESULT), 0);
        x.clear();
        Check.noResult("cleared: an empty result", x);
    }

    // "CAP and C do not change." (CAP)
    private static void keepsTheCapacity() {
        int[] capacities = {Integer.MIN_VALUE, 0, 1, 2, 17, 31, 32, 33, Integer.MAX_VALUE};
        int[] kept = {1, 1, 1, 2, 17, 31, 32, 32, 32};
        for (int t = 0; t < capacities.length; t++) {
            PatienceDiff x = new PatienceDiff(capacities[t], 0);
            for (int round = 0; round < 3; round++) {
                for (int seq = PatienceDiff.SEQ_OLD; seq <= PatienceDiff.SEQ_BASE; seq++) {
                    Check.feed(x, seq, Check.run(kept[t], 1));
                    Check.due("capacity " + capacities[t] + ", cleared " + round + " times: a line too many",
                        x.addLine(seq, 9), PatienceDiff.REFUSED);
                }
                x.clear();
            }
        }
    }

    // "CAP and C do not change." (C)
    private static void keepsTheContext() {
        int[] contexts = {Integer.MIN_VALUE, -1, 0, 1, 2, 3, 4, Integer.MAX_VALUE};
        int[] kept = {0, 0, 0, 1, 2, 3, 3, 3};
        for (int t = 0; t < contexts.length; t++) {
            PatienceDiff x = new PatienceDiff(9, contexts[t]);
            for (int round = 0; round < 3; round++) {
                Check.feed(x, PatienceDiff.SEQ_OLD, Check.run(8, 1));
                Check.feed(x, PatienceDiff.SEQ_NEW, 1, 2, 3, 4, 99, 5, 6, 7, 8);
                Check.due("diff()", x.diff(), 8);
                Check.due("context " + contexts[t] + ", cleared " + round + " times: F_SIZE",
                    x.hunkInfo(0, PatienceDiff.F_SIZE), 2 * kept[t] + 1);
                x.clear();
            }
        }
    }

    // "After it the object behaves exactly like a fresh one built with the same arguments."
    private static void behavesLikeAFreshOne() {
        for (State state : State.all()) {
            PatienceDiff fresh = new PatienceDiff(state.capacity(), state.context());
            state.object().clear();
            Look.sameRun("cleared: " + state.name(), state.object(), fresh);
        }
        PatienceDiff twice = State.applied().object();
        twice.clear();
        twice.clear();
        Look.sameRun("cleared twice", twice, new PatienceDiff(8, 1));
        PatienceDiff x = State.applied().object();
        x.clear();
        Check.due("diff() right after clear", x.diff(), 0);
        Check.due("hunkCount() right after clear", x.hunkCount(), 0);
        Check.due("apply(8) right after clear", x.apply(8), 0);
        Check.sequence("right after clear", x, PatienceDiff.SEQ_RESULT);
    }
}
