// What the tests share: counting wrong answers, and objects filled in one line.
final class Check {
    static final int[] ODD_INTS = {
        Integer.MIN_VALUE, Integer.MIN_VALUE + 1, -100, -2, -1, 0, 1, 2, 3, 4, 5, 6, 7, 8, 9, 31, 32, 33, 64, 100,
        Integer.MAX_VALUE - 1, Integer.MAX_VALUE
    };

    private static int wrong = 0;

    private Check() {
    }

    static void due(String call, int got, int want) {
        if (got != want) {
            wrong++;
            if (wrong <= 50) {
                System.out.println(call + " answered " + got + ", due is " + want);
            }
        }
    }

    static void holds(String what, boolean held) {
        due(what, held ? 1 : 0, 1);
    }

    static void end() {
        if (wrong != 0) {
            System.out.println(wrong + " answers are not as due");
            System.exit(1);
        }
    }

    static int[] lines(int... hashes) {
        return hashes;
    }

    // `count` lines, each one more than the line before.
    static int[] run(int count, int first) {
        int[] lines = new int[count];
        for (int t = 0; t < count; t++) {
            lines[t] = first + t;
        }
        return lines;
    }

    // The sequence must be empty; for one that is not there is feedMore.
    static void feed(PatienceDiff x, int seq, int... hashes) {
        due("length(" + seq + ") before the first line", x.length(seq), 0);
        feedMore(x, seq, hashes);
    }

    static void feedMore(PatienceDiff x, int seq, int... hashes) {
        int length = x.length(seq);
        for (int t = 0; t < hashes.length; t++) {
            due("addLine(" + seq + ", " + hashes[t] + ")", x.addLine(seq, hashes[t]), length + t + 1);
        }
    }

    static PatienceDiff filled(int context, int[] a, int[] b, int[] base) {
        PatienceDiff x = new PatienceDiff(32, context);
        feed(x, PatienceDiff.SEQ_OLD, a);
        feed(x, PatienceDiff.SEQ_NEW, b);
        feed(x, PatienceDiff.SEQ_BASE, base);
        return x;
    }

    static PatienceDiff diffed(int context, int[] a, int[] b, int[] base) {
        PatienceDiff x = filled(context, a, b, base);
        x.diff();
        return x;
    }

    static void sequence(String what, PatienceDiff x, int seq, int... want) {
        due(what + ": length(" + seq + ")", x.length(seq), want.length);
        for (int t = 0; t < want.length; t++) {
            due(what + ": line(" + seq + ", " + t + ")", x.line(seq, t), want[t]);
        }
    }

    static void matches(String what, PatienceDiff x, int... want) {
        for (int i = 0; i < want.length; i++) {
            due(what + ": matchOf(" + i + ")", x.matchOf(i), want[i]);
        }
        due(what + ": matchOf(" + want.length + ")", x.matchOf(want.length), PatienceDiff.MATCH_INVALID);
    }

    static void script(String what, PatienceDiff x, int... want) {
        due(what + ": scriptLength()", x.scriptLength(), want.length);
        for (int p = 0; p < want.length; p++) {
            due(what + ": scriptKind(" + p + ")", x.scriptKind(p), want[p]);
        }
    }

    static void hunk(String what, PatienceDiff x, int h, int... want) {
        for (int field = 0; field < want.length; field++) {
            due(what + ": hunkInfo(" + h + ", " + field + ")", x.hunkInfo(h, field), want[field]);
        }
    }

    static void noDiff(String what, PatienceDiff x) {
        due(what + ": matchOf(0)", x.matchOf(0), PatienceDiff.MATCH_INVALID);
        due(what + ": scriptLength()", x.scriptLength(), PatienceDiff.REFUSED);
        due(what + ": scriptKind(0)", x.scriptKind(0), PatienceDiff.REFUSED);
        due(what + ": hunkCount()", x.hunkCount(), PatienceDiff.REFUSED);
        for (int field = 0; field <= 5; field++) {
            due(what + ": hunkInfo(0, " + field + ")", x.hunkInfo(0, field), PatienceDiff.REFUSED);
        }
        due(what + ": hunkLineKind(0, 0)", x.hunkLineKind(0, 0), PatienceDiff.REFUSED);
        due(what + ": hunkLineHash(0, 0)", x.hunkLineHash(0, 0), 0);
        due(what + ": apply(0)", x.apply(0), PatienceDiff.APPLY_NO_DIFF);
    }

    static void noResult(String what, PatienceDiff x) {
        due(what + ": length(3)", x.length(PatienceDiff.SEQ_RESULT), PatienceDiff.REFUSED);
        due(what + ": line(3, 0)", x.line(PatienceDiff.SEQ_RESULT, 0), 0);
        due(what + ": hunkInfo(0, 5)", x.hunkInfo(0, PatienceDiff.F_APPLIED_AT), PatienceDiff.REFUSED);
    }
}
