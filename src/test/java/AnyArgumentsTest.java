// "no call ever fails (no exception is thrown); any int arguments are allowed": an exception ends the test.
public final class AnyArgumentsTest {
    public static void main(String[] args) {
        for (int one : Check.ODD_INTS) {
            for (int two : Check.ODD_INTS) {
                for (State state : State.all()) {
                    lookWith(state.object(), one, two);
                    changeWith(state.object(), one, two);
                    lookWith(state.object(), one, two);
                }
                PatienceDiff made = new PatienceDiff(one, two);
                changeWith(made, one, two);
                lookWith(made, one, two);
            }
        }
        Check.end();
    }

    private static void lookWith(PatienceDiff x, int one, int two) {
        x.length(one);
        x.line(one, two);
        x.matchOf(one);
        x.scriptLength();
        x.scriptKind(one);
        x.hunkCount();
        x.hunkInfo(one, two);
        x.hunkLineKind(one, two);
        x.hunkLineHash(one, two);
    }

    private static void changeWith(PatienceDiff x, int one, int two) {
        x.apply(one);
        x.addLine(one, two);
        x.apply(two);
        x.diff();
        x.apply(one);
        for (int t = 0; t < 34; t++) {
            x.addLine(t % 3, one);
            x.addLine((t + 1) % 3, two);
        }
        lookWith(x, one, two);
        x.diff();
        x.apply(two);
        lookWith(x, one, two);
        x.clear();
        x.addLine(one, two);
    }
}
