import java.util.function.BiConsumer;

// Each method below that stands under a sentence of the document is that sentence's test.
public final class Promise08ScriptTest {
    private static final int[] NONE = {};

    public static void main(String[] args) {
        lengthOfTheScript();
        lengthRefusedWithoutADiff();
        kindsOfTheOps();
        kindRefusedWithoutADiff();
        kindRefusedOutsideTheScript();
        nothingChanges();
        Check.end();
    }

    // "scriptLength() answers n + m - k, the length of the edit script"
    private static void lengthOfTheScript() {
        for (int n : Check.lines(0, 1, 2, 31, 32)) {
            for (int m : Check.lines(0, 1, 2, 31, 32)) {
                PatienceDiff apart = Check.diffed(0, Check.run(n, 0), Check.run(m, 100), NONE);
                Check.due("nothing in common: scriptLength()", apart.scriptLength(), n + m);
                PatienceDiff prefix = Check.diffed(3, Check.run(n, 0), Check.run(m, 0), NONE);
                Check.due("one begins the other: scriptLength()", prefix.scriptLength(), Math.max(n, m));
            }
        }
    }

    private static void eachWithoutADiff(BiConsumer<String, PatienceDiff> refused) {
        PatienceDiff x = new PatienceDiff(32, 1);
        refused.accept("fresh", x);
        Check.feed(x, PatienceDiff.SEQ_OLD, 1, 2);
        Check.feed(x, PatienceDiff.SEQ_NEW, 1, 3);
        refused.accept("never diffed", x);
        Check.due("diff()", x.diff(), 1);
        Check.script("diffed", x, 0, 1, 2);
        x.addLine(PatienceDiff.SEQ_BASE, 3);
        Check.script("a line more in base", x, 0, 1, 2);
        x.addLine(PatienceDiff.SEQ_OLD, 3);
        refused.accept("a line more in A", x);
        Check.due("diff()", x.diff(), 2);
        x.addLine(PatienceDiff.SEQ_NEW, 3);
        refused.accept("a line more in B", x);
        Check.due("diff()", x.diff(), 2);
        x.clear();
        refused.accept("cleared", x);
    }

    // "or REFUSED if no diff is present"
    private static void lengthRefusedWithoutADiff() {
        eachWithoutADiff((what, x) -> Check.due(what + ": scriptLength()", x.scriptLength(), PatienceDiff.REFUSED));
    }

    // "scriptKind(p) answers the kind (KIND_KEEP, KIND_DELETE or KIND_INSERT) of edit script op p (0-based)."
    private static void kindsOfTheOps() {
        Check.script("all three", Check.diffed(0, Check.lines(1, 2, 3, 4), Check.lines(1, 8, 9, 4, 5), NONE),
            0, 1, 1, 2, 2, 0, 2);
        Check.script("both empty", Check.diffed(0, NONE, NONE, NONE));
        Check.script("A empty", Check.diffed(0, NONE, Check.lines(1, 2), NONE), 2, 2);
        Check.script("B empty", Check.diffed(0, Check.lines(1, 2), NONE, NONE), 1, 1);
        Check.script("equal", Check.diffed(0, Check.lines(1, 2), Check.lines(1, 2), NONE), 0, 0);
        int[] longest = new int[64];
        for (int t = 0; t < 32; t++) {
            longest[t] = PatienceDiff.KIND_DELETE;
            longest[32 + t] = PatienceDiff.KIND_INSERT;
        }
        Check.script("the longest", Check.diffed(3, Check.run(32, 0), Check.run(32, 100), NONE), longest);
    }

    // "It answers REFUSED if no diff is present"
    private static void kindRefusedWithoutADiff() {
        eachWithoutADiff((what, x) -> {
            for (int p : Check.ODD_INTS) {
                Check.due(what + ": scriptKind(" + p + ")", x.scriptKind(p), PatienceDiff.REFUSED);
            }
        });
    }

    // "or p is not in 0..scriptLength()-1"
    private static void kindRefusedOutsideTheScript() {
        for (int n : Check.lines(0, 1, 5, 32)) {
            for (int m : Check.lines(0, 1, 5, 32)) {
                PatienceDiff x = Check.diffed(2, Check.run(n, 0), Check.run(m, 100), NONE);
                for (int p = n + m; p <= 70; p++) {
                    Check.due(n + m + " ops: scriptKind(" + p + ")", x.scriptKind(p), PatienceDiff.REFUSED);
                }
                for (int p : Check.lines(-1, -2, -64, Integer.MIN_VALUE, Integer.MAX_VALUE)) {
                    Check.due(n + m + " ops: scriptKind(" + p + ")", x.scriptKind(p), PatienceDiff.REFUSED);
                }
            }
        }
    }

    // "Neither changes anything."
    private static void nothingChanges() {
        for (State state : State.all()) {
            Look.changesNothing(state.name() + ": scriptLength and scriptKind", state.object(), () -> {
                state.object().scriptLength();
                for (int p : Check.ODD_INTS) {
                    state.object().scriptKind(p);
                }
            });
        }
    }
}
