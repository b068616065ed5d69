import java.util.List;

// An object in each state that a call can meet, with what it was built with.
record State(String name, int capacity, int context, PatienceDiff object) {
    private static final int[] A = {1, 2, 3, 4, 5, 6};
    private static final int[] B = {1, 9, 3, 4, 5, 6, 7};
    private static final int[] BASE = {0, 1, 2, 3, 4, 5, 6};

    static List<State> all() {
        return List.of(fresh(), fed(), diffed(), withoutHunks(), failed(), applied(), appliedThenFailed(),
            afterLine(PatienceDiff.SEQ_OLD), afterLine(PatienceDiff.SEQ_NEW), afterLine(PatienceDiff.SEQ_BASE),
            cleared(), fullOfOne(), fullOf32(), longestResult());
    }

    private static State made(String name, int capacity, int context, int[] a, int[] b, int[] base) {
        PatienceDiff x = new PatienceDiff(capacity, context);
        Check.feed(x, PatienceDiff.SEQ_OLD, a);
        Check.feed(x, PatienceDiff.SEQ_NEW, b);
        Check.feed(x, PatienceDiff.SEQ_BASE, base);
        return new State(name, capacity, context, x);
    }

    private State thenDiff(int want) {
        Check.due(name + ": diff()", object.diff(), want);
        return this;
    }

    private State thenApply(int maxOffset, int want) {
        Check.due(name + ": apply(" + maxOffset + ")", object.apply(maxOffset), want);
        return this;
    }

    private static State fresh() {
        return new State("fresh", 4, 1, new PatienceDiff(4, 1));
    }

    private static State fed() {
        return made("fed", 8, 1, A, B, BASE);
    }

    private static State diffed() {
        return made("diffed", 8, 1, A, B, BASE).thenDiff(5);
    }

    private static State withoutHunks() {
        return made("without hunks", 8, 2, A, A, BASE).thenDiff(6).thenApply(0, 0);
    }

    private static State failed() {
        return made("failed", 8, 0, A, B, BASE).thenDiff(5).thenApply(0, -2);
    }

    static State applied() {
        return made("applied", 8, 1, A, B, BASE).thenDiff(5).thenApply(1, 2);
    }

    static State appliedThenFailed() {
        return made("applied, then failed", 8, 1, A, B, BASE).thenDiff(5).thenApply(1, 2).thenApply(0, -2);
    }

    private static State afterLine(int seq) {
        State state = applied();
        state.object().addLine(seq, 5);
        return new State("a line more in " + seq, 8, 1, state.object());
    }

    private static State cleared() {
        State state = applied();
        state.object().clear();
        return new State("cleared", 8, 1, state.object());
    }

    private static State fullOfOne() {
        return made("full of one line", 1, 3, Check.lines(4), Check.lines(5), Check.lines(4))
            .thenDiff(0).thenApply(0, 1);
    }

    private static State fullOf32() {
        return made("full of 32 lines", 32, 3, Check.run(32, 100), Check.run(32, 200), Check.run(32, 100))
            .thenDiff(0).thenApply(0, 1);
    }

    private static State longestResult() {
        return made("the longest result", 32, 0, Check.lines(), Check.run(32, 200), Check.run(32, 300))
            .thenDiff(0).thenApply(0, 1);
    }
}
