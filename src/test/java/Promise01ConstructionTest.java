// Each method below that stands under a sentence of the document is that sentence's test.
public final class Promise01ConstructionTest {
    public static void main(String[] args) {
        capacityBelow1();
        capacityAbove32();
        capacityFrom1To32();
        contextBelow0();
        contextAbove3();
        contextFrom0To3();
        anyIntForBoth();
        freshObject();
        fixedForLife();
        Check.end();
    }

    // "CAP is the most lines each of A, B and base may hold."
    private static void capacityIs(String what, PatienceDiff x, int want) {
        for (int seq = PatienceDiff.SEQ_OLD; seq <= PatienceDiff.SEQ_BASE; seq++) {
            Check.feed(x, seq, Check.run(want, 10 * seq));
            Check.due(what + ": a line too many in " + seq, x.addLine(seq, 1), PatienceDiff.REFUSED);
            Check.due(what + ": length(" + seq + ")", x.length(seq), want);
        }
    }

    private static void contextIs(String what, PatienceDiff x, int want) {
        Check.feed(x, PatienceDiff.SEQ_OLD, 1, 2, 3, 4, 5, 6, 7, 8, 9, 10);
        Check.feed(x, PatienceDiff.SEQ_NEW, 1, 2, 3, 4, 5, 50, 6, 7, 8, 9, 10);
        Check.due(what + ": diff()", x.diff(), 10);
        Check.hunk(what, x, 0, 5 - want, 2 * want, 5 - want, 2 * want + 1, 2 * want + 1);
    }

    // "any value below 1 becomes 1"
    private static void capacityBelow1() {
        for (int capacity : Check.lines(0, -1, -2, -31, -32, -33, Integer.MIN_VALUE + 1, Integer.MIN_VALUE)) {
            capacityIs("capacity " + capacity, new PatienceDiff(capacity, 0), 1);
        }
    }

    // "any value above 32 becomes 32"
    private static void capacityAbove32() {
        for (int capacity : Check.lines(33, 34, 63, 64, 65, 1 << 16, Integer.MAX_VALUE - 1, Integer.MAX_VALUE)) {
            capacityIs("capacity " + capacity, new PatienceDiff(capacity, 0), 32);
        }
    }

    // "values in 1..32 are kept"
    private static void capacityFrom1To32() {
        for (int capacity = 1; capacity <= 32; capacity++) {
            capacityIs("capacity " + capacity, new PatienceDiff(capacity, 0), capacity);
        }
    }

    // "below 0 becomes 0"
    private static void contextBelow0() {
        for (int context : Check.lines(-1, -2, -3, -4, Integer.MIN_VALUE + 1, Integer.MIN_VALUE)) {
            contextIs("context " + context, new PatienceDiff(32, context), 0);
        }
    }

    // "above 3 becomes 3"
    private static void contextAbove3() {
        for (int context : Check.lines(4, 5, 32, 1 << 16, Integer.MAX_VALUE - 1, Integer.MAX_VALUE)) {
            contextIs("context " + context, new PatienceDiff(32, context), 3);
        }
    }

    // "C is context clamped into 0..3"
    private static void contextFrom0To3() {
        for (int context = 0; context <= 3; context++) {
            contextIs("context " + context, new PatienceDiff(32, context), context);
        }
    }

    // "Any int is accepted for both arguments, including Integer.MIN_VALUE and Integer.MAX_VALUE."
    private static void anyIntForBoth() {
        for (int capacity : Check.ODD_INTS) {
            for (int context : Check.ODD_INTS) {
                int cap = Math.min(Math.max(capacity, 1), 32);
                int c = Math.min(Math.max(context, 0), 3);
                String what = "new PatienceDiff(" + capacity + ", " + context + ")";
                capacityIs(what, new PatienceDiff(capacity, context), cap);
                if (cap >= 11) {
                    contextIs(what, new PatienceDiff(capacity, context), c);
                }
            }
        }
    }

    // "A fresh object has A, B and base all empty (n = m = z = 0), no diff and no result."
    private static void freshObject() {
        for (int capacity : Check.ODD_INTS) {
            PatienceDiff x = new PatienceDiff(capacity, 2);
            String what = "fresh, capacity " + capacity;
            for (int seq = PatienceDiff.SEQ_OLD; seq <= PatienceDiff.SEQ_BASE; seq++) {
                Check.sequence(what, x, seq);
            }
            Check.noDiff(what, x);
            Check.noResult(what, x);
        }
    }

    // "fixes CAP and C for the life of the object"
    private static void fixedForLife() {
        PatienceDiff x = new PatienceDiff(11, 2);
        for (int round = 0; round < 3; round++) {
            contextIs("round " + round, x, 2);
            Check.feed(x, PatienceDiff.SEQ_BASE, 1, 2, 3, 4, 5, 6, 7, 8, 9, 10);
            Check.due("apply(8)", x.apply(8), 1);
            Check.due("diff() of the same", x.diff(), 10);
            Check.hunk("the same in round " + round, x, 0, 3, 4, 3, 5, 5);
            x.clear();
            capacityIs("round " + round, x, 11);
            Check.due("diff() of full texts", x.diff(), 1);
            x.clear();
        }
    }
}
