import java.util.ArrayList;
import java.util.List;

// Every answer of the calls that only look, in one row: to compare two objects,
// or one object before and after a call.
final class Look {
    private record Answer(String method, int one, int two, int value) {
    }

    private static final int[] SEQUENCES = {Integer.MIN_VALUE, -1, 0, 1, 2, 3, 4, Integer.MAX_VALUE};

    private final List<Answer> answers = new ArrayList<>();

    private Look(PatienceDiff x) {
        see("scriptLength", 0, 0, x.scriptLength());
        see("hunkCount", 0, 0, x.hunkCount());
        for (int seq : SEQUENCES) {
            see("length", seq, 0, x.length(seq));
            for (int index = -1; index <= 64; index++) {
                see("line", seq, index, x.line(seq, index));
            }
        }
        for (int i = -1; i <= 32; i++) {
            see("matchOf", i, 0, x.matchOf(i));
        }
        for (int p = -1; p <= 64; p++) {
            see("scriptKind", p, 0, x.scriptKind(p));
        }
        for (int h = -1; h <= 22; h++) {
            seeHunk(x, h);
        }
    }

    private void seeHunk(PatienceDiff x, int h) {
        for (int field = -1; field <= 6; field++) {
            see("hunkInfo", h, field, x.hunkInfo(h, field));
        }
        for (int k = -1; k <= 64; k++) {
            see("hunkLineKind", h, k, x.hunkLineKind(h, k));
            see("hunkLineHash", h, k, x.hunkLineHash(h, k));
        }
    }

    private void see(String method, int one, int two, int value) {
        answers.add(new Answer(method, one, two, value));
    }

    private static void same(String what, Look got, Look want) {
        for (int t = 0; t < want.answers.size(); t++) {
            Answer is = got.answers.get(t);
            Answer due = want.answers.get(t);
            if (!is.equals(due)) {
                Check.due(what + ": " + is.method() + "(" + is.one() + ", " + is.two() + ")", is.value(), due.value());
                return;
            }
        }
    }

    static void same(String what, PatienceDiff got, PatienceDiff want) {
        same(what, new Look(got), new Look(want));
    }

    static void changesNothing(String what, PatienceDiff x, Runnable calls) {
        Look before = new Look(x);
        calls.run();
        same(what + " changes nothing", new Look(x), before);
    }

    // The same calls on both, up to the capacity and beyond, with a look after each.
    static void sameRun(String what, PatienceDiff got, PatienceDiff want) {
        same(what, got, want);
        Check.due(what + ": apply(0) at first", got.apply(0), want.apply(0));
        for (int t = 0; t < 34; t++) {
            Check.due(what + ": addLine(0, )", got.addLine(0, t % 7), want.addLine(0, t % 7));
            Check.due(what + ": addLine(1, )", got.addLine(1, t % 5), want.addLine(1, t % 5));
            Check.due(what + ": addLine(2, )", got.addLine(2, t % 7), want.addLine(2, t % 7));
            same(what + " with more lines", got, want);
            Check.due(what + ": diff()", got.diff(), want.diff());
            Check.due(what + ": apply(1)", got.apply(1), want.apply(1));
            same(what + " applied", got, want);
        }
    }
}
