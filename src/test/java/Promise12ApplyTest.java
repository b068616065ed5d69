import java.util.Arrays;

// Each method below that stands under a sentence of the document is that sentence's test.
public final class Promise12ApplyTest {
    private static final int[] NONE = {};

    public static void main(String[] args) {
        offsetFrom0To8();
        offsetBelow0();
        offsetAbove8();
        withoutADiff();
        expectedPlace();
        orderOfTheCandidates();
        offset0HasOneCandidate();
        notBeforeTheCursor();
        notPastTheEnd();
        negativePlaces();
        everyOldLineMustAgree();
        onlyTheBaseIsCompared();
        hunksWithoutOldLines();
        firstPlaceIsTaken();
        shiftIsTheLastHunksOwn();
        failureNamesTheFirstHunk();
        failureChangesNothing();
        restOfTheBaseFollows();
        resultReplacesAnEarlierOne();
        answersTheHunkCount();
        withoutHunks();
        leavesTheRestAlone();
        baseEqualToAGivesB();
        Check.end();
    }

    private static void applied(String what, PatienceDiff x, int maxOffset, int[] places, int... result) {
        Check.due(what + ": apply(" + maxOffset + ")", x.apply(maxOffset), places.length);
        for (int h = 0; h < places.length; h++) {
            Check.due(what + ": hunkInfo(" + h + ", 5)", x.hunkInfo(h, PatienceDiff.F_APPLIED_AT), places[h]);
        }
        Check.sequence(what, x, PatienceDiff.SEQ_RESULT, result);
    }

    private static void fails(String what, PatienceDiff x, int maxOffset, int hunk) {
        Check.due(what + ": apply(" + maxOffset + ")", x.apply(maxOffset), PatienceDiff.APPLY_FAIL_BASE - hunk);
    }

    // One hunk, a 5 replaced by a 6, expected at 12; base has 25 lines, and a 5 at each given place.
    private static PatienceDiff expectedAt12(int... fives) {
        int[] base = new int[25];
        for (int place : fives) {
            base[place] = 5;
        }
        int[] a = Check.run(13, 100);
        int[] b = Check.run(13, 100);
        a[12] = 5;
        b[12] = 6;
        return Check.diffed(0, a, b, base);
    }

    private static void reaches(int maxOffset, int want) {
        for (int d = 0; d <= 12; d++) {
            for (int place : Check.lines(12 - d, 12 + d)) {
                PatienceDiff x = expectedAt12(place);
                String call = "the 5 at " + place + ", expected at 12: apply(" + maxOffset + ")";
                Check.due(call, x.apply(maxOffset), d <= want ? 1 : PatienceDiff.APPLY_FAIL_BASE);
                Check.due(call + " and F_APPLIED_AT", x.hunkInfo(0, PatienceDiff.F_APPLIED_AT),
                    d <= want ? place : PatienceDiff.REFUSED);
            }
        }
    }

    // "maxOffset is clamped into 0..8"
    private static void offsetFrom0To8() {
        for (int maxOffset = 0; maxOffset <= 8; maxOffset++) {
            reaches(maxOffset, maxOffset);
        }
    }

    // "below 0 becomes 0"; "any int is accepted"
    private static void offsetBelow0() {
        for (int maxOffset : Check.lines(-1, -2, -8, -9, Integer.MIN_VALUE + 1, Integer.MIN_VALUE)) {
            reaches(maxOffset, 0);
        }
    }

    // "above 8 becomes 8"; "any int is accepted"
    private static void offsetAbove8() {
        for (int maxOffset : Check.lines(9, 10, 12, 32, 1 << 16, Integer.MAX_VALUE - 1, Integer.MAX_VALUE)) {
            reaches(maxOffset, 8);
        }
    }

    // "If no diff is present, it answers APPLY_NO_DIFF and changes nothing."
    private static void withoutADiff() {
        for (State state : State.all()) {
            if (state.object().scriptLength() == PatienceDiff.REFUSED) {
                for (int maxOffset : Check.ODD_INTS) {
                    String call = state.name() + ": apply(" + maxOffset + ")";
                    Look.changesNothing(call, state.object(),
                        () -> Check.due(call, state.object().apply(maxOffset), PatienceDiff.APPLY_NO_DIFF));
                }
            }
        }
        // Equal texts need no hunk, and yet a diff.
        PatienceDiff x = Check.filled(1, Check.lines(1), Check.lines(1), Check.lines(1));
        Check.due("equal, never diffed: apply(0)", x.apply(0), PatienceDiff.APPLY_NO_DIFF);
        Check.noResult("equal, never diffed", x);
    }

    // "e = aStart + shift", with shift = 0 at first.
    private static void expectedPlace() {
        for (int start = 0; start <= 31; start++) {
            int[] a = Check.run(32, 0);
            int[] b = Check.run(32, 0);
            b[start] = 99;
            int[] alike = new int[32];
            Arrays.fill(alike, start);
            int[] want = alike.clone();
            want[start] = 99;
            // Every line of base agrees, so only the expected place decides.
            applied("expected at " + start, Check.diffed(0, a, b, alike), 8, Check.lines(start), want);
        }
    }

    // "d = 0, -1, +1, -2, +2, ..., -maxOffset, +maxOffset, in this order"
    private static void orderOfTheCandidates() {
        for (int s = 1; s <= 8; s++) {
            takes("0 before -" + s, 12, 12, 12 - s);
            takes("0 before +" + s, 12, 12, 12 + s);
            takes("-" + s + " before +" + s, 12 - s, 12 - s, 12 + s);
            for (int more = s + 1; more <= 8; more++) {
                takes("+" + s + " before -" + more, 12 + s, 12 + s, 12 - more);
                takes("-" + s + " before +" + more, 12 - s, 12 - s, 12 + more);
                takes("-" + s + " before -" + more, 12 - s, 12 - s, 12 - more);
                takes("+" + s + " before +" + more, 12 + s, 12 + s, 12 + more);
            }
        }
    }

    private static void takes(String what, int want, int... fives) {
        PatienceDiff x = expectedAt12(fives);
        Check.due(what + ": apply(8)", x.apply(8), 1);
        Check.due(what + ": hunkInfo(0, 5)", x.hunkInfo(0, PatienceDiff.F_APPLIED_AT), want);
        Check.due(what + ": the line there", x.line(PatienceDiff.SEQ_RESULT, want), 6);
    }

    // "with maxOffset 0 the only candidate is d = 0"
    private static void offset0HasOneCandidate() {
        fails("a 5 on both sides", expectedAt12(11, 13), 0, 0);
        Check.due("a 5 there", expectedAt12(11, 12, 13).apply(0), 1);
    }

    // "p is acceptable iff p >= cursor"
    private static void notBeforeTheCursor() {
        int[] a = {5, 1, 5};
        int[] b = {6, 1, 7};
        applied("right at the cursor", Check.diffed(0, a, b, Check.lines(9, 5, 5)), 1, Check.lines(1, 2), 9, 6, 7);
        fails("a line used already", Check.diffed(0, a, b, Check.lines(9, 5, 9)), 8, 1);
        fails("a line passed over", Check.diffed(0, a, b, Check.lines(5, 9, 9)), 8, 1);
        // 5 5 may not be placed upon the second 5 of the 5 5 before.
        fails("half of a hunk used already", Check.diffed(0, Check.lines(5, 5, 1, 5, 5), Check.lines(6, 1, 7),
            Check.lines(9, 9, 5, 5, 5)), 8, 1);
        applied("all but touching", Check.diffed(0, Check.lines(5, 5, 1, 5, 5), Check.lines(6, 1, 7),
            Check.lines(9, 5, 5, 5, 5)), 1, Check.lines(1, 3), 9, 6, 7);
    }

    // "p + aLen <= z"
    private static void notPastTheEnd() {
        fails("empty base", Check.diffed(0, Check.lines(5), Check.lines(6), NONE), 8, 0);
        fails("one line past the end", Check.diffed(0, Check.lines(5, 6), Check.lines(7), Check.lines(0, 5)), 8, 0);
        applied("up to the end", Check.diffed(0, Check.lines(5, 6), Check.lines(7), Check.lines(0, 5, 6)), 1,
            Check.lines(1), 0, 7);
        fails("base shorter than the hunk", Check.diffed(0, Check.lines(5, 5, 5), NONE, Check.lines(5, 5)), 8, 0);
        applied("base as long as the hunk", Check.diffed(0, Check.lines(5, 5, 5), NONE, Check.lines(5, 5, 5)), 0,
            Check.lines(0));
        int[] base = new int[32];
        base[31] = 5;
        int[] want = new int[32];
        want[31] = 6;
        int[] a = Check.run(24, 100);
        int[] b = Check.run(24, 100);
        a[23] = 5;
        b[23] = 6;
        applied("the last line of a full base", Check.diffed(0, a, b, base), 8, Check.lines(31), want);
        applied("the same, with no bound near", Check.diffed(0, a, b, base), Integer.MAX_VALUE, Check.lines(31), want);
    }

    // "A candidate that fails either of the two range conditions (for example a negative p, or one reaching
    // past z) is simply not acceptable"
    private static void negativePlaces() {
        for (int place = 0; place <= 8; place++) {
            int[] base = new int[place + 1];
            base[place] = 5;
            int[] want = new int[place + 1];
            want[place] = 6;
            // The candidates -1 .. -place come first and have no line at all.
            applied("past " + place + " negative ones", Check.diffed(0, Check.lines(5), Check.lines(6), base), 8,
                Check.lines(place), want);
        }
        // The other way round: past z come the odd ones, and the next one back is good.
        for (int back = 1; back <= 8; back++) {
            int[] a = Check.run(9, 100);
            a[8] = 5;
            int[] base = new int[9 - back];
            base[8 - back] = 5;
            int[] want = new int[9 - back];
            want[8 - back] = 6;
            int[] b = a.clone();
            b[8] = 6;
            applied(back + " back from past the end", Check.diffed(0, a, b, base), 8, Check.lines(8 - back), want);
        }
    }

    // "base[p+t] equals the hunk's t-th OLD line for every t in 0..aLen-1"
    private static void everyOldLineMustAgree() {
        int[] a = {1, 2, 5, 3, 4};
        int[] b = {1, 2, 6, 3, 4};
        applied("all agree", Check.diffed(2, a, b, a), 0, Check.lines(0), b);
        for (int t = 0; t < 5; t++) {
            for (int bit = 0; bit < 32; bit++) {
                int[] base = a.clone();
                base[t] ^= 1 << bit;
                fails("line " + t + " differs in bit " + bit, Check.diffed(2, a, b, base), 8, 0);
            }
        }
        int[] odd = {Integer.MIN_VALUE, Integer.MAX_VALUE, -1, 0};
        applied("odd ints agree", Check.diffed(0, odd, Check.lines(8), odd), 0, Check.lines(0), 8);
        // The lines outside of the hunk do not count.
        applied("others differ", Check.diffed(1, a, b, Check.lines(0, 2, 5, 3, 0)), 0, Check.lines(1), 0, 2, 6, 3, 0);
    }

    // "base is only ever compared at positions 0..z-1"
    private static void onlyTheBaseIsCompared() {
        // Line 2 of base is gone with clear, and must not be seen again.
        PatienceDiff stale = Check.filled(0, NONE, NONE, Check.lines(0, 5, 6));
        stale.clear();
        Check.feed(stale, PatienceDiff.SEQ_OLD, 5, 6);
        Check.feed(stale, PatienceDiff.SEQ_NEW, 7);
        Check.feed(stale, PatienceDiff.SEQ_BASE, 0, 5);
        Check.due("diff()", stale.diff(), 0);
        fails("a line of before clear", stale, 8, 0);
        // Nor may lines that were never fed pass for zeros.
        fails("no zeros past the end", Check.diffed(0, Check.lines(5, 0), Check.lines(7), Check.lines(5)), 8, 0);
        fails("no zeros before the start", Check.diffed(0, Check.lines(0, 5), Check.lines(7), Check.lines(5)), 8, 0);
        fails("no zeros in an empty base", Check.diffed(0, Check.lines(0), Check.lines(7), NONE), 8, 0);
        int[] full = Check.run(32, 0);
        fails("no zeros past a full base", Check.diffed(0, Check.lines(31, 0), Check.lines(7), full), 8, 0);
    }

    // "When aLen = 0 the line test holds trivially, so any p with cursor <= p <= z is acceptable"
    private static void hunksWithoutOldLines() {
        applied("into an empty base", Check.diffed(3, NONE, Check.lines(4, 5), NONE), 0, Check.lines(0), 4, 5);
        applied("before all", Check.diffed(3, NONE, Check.lines(4), Check.lines(7)), 8, Check.lines(0), 4, 7);
        int[] a = {1, 2, 3};
        int[] b = {1, 2, 3, 4};
        applied("any lines do", Check.diffed(0, a, b, Check.lines(9, 9, 9, 9)), 0, Check.lines(3), 9, 9, 9, 4, 9);
        applied("at z", Check.diffed(0, a, b, Check.lines(9, 9, 9)), 0, Check.lines(3), 9, 9, 9, 4);
        fails("at z + 1", Check.diffed(0, a, b, Check.lines(9, 9)), 0, 0);
        applied("back to z", Check.diffed(0, a, b, Check.lines(9)), 2, Check.lines(1), 9, 4);
        fails("too far from z", Check.diffed(0, a, b, Check.lines(9)), 1, 0);
        applied("back to an empty base", Check.diffed(0, a, b, NONE), 3, Check.lines(0), 4);
        applied("eight back", Check.diffed(0, Check.run(8, 1), Check.run(9, 1), NONE), 8, Check.lines(0), 9);
        fails("nine back", Check.diffed(0, Check.run(9, 1), Check.run(10, 1), NONE), Integer.MAX_VALUE, 0);
        // The delete before it ends at 2, and so does base: p = cursor = z.
        applied("at the cursor and z", Check.diffed(0, Check.lines(5, 1), Check.lines(1, 2), Check.lines(0, 5)), 1,
            Check.lines(1, 2), 0, 2);
        applied("the last place of all", Check.diffed(0, Check.run(32, 0), Check.lines(31, 99), Check.run(32, 0)), 0,
            Check.lines(0, 32), 31, 99);
    }

    // "base[cursor..p) and then the hunk's NEW lines are appended to the output, cursor = p + aLen"
    private static void firstPlaceIsTaken() {
        applied("lines passed over are kept", Check.diffed(1, Check.lines(1, 5, 2), Check.lines(1, 6, 7, 2),
            Check.lines(8, 9, 1, 5, 2, 10)), 2, Check.lines(2), 8, 9, 1, 6, 7, 2, 10);
        applied("none passed over", Check.diffed(0, Check.lines(5, 1, 5), Check.lines(6, 1, 6),
            Check.lines(5, 5)), 1, Check.lines(0, 1), 6, 6);
        applied("a hunk without NEW lines", Check.diffed(0, Check.lines(5, 1, 7), Check.lines(1),
            Check.lines(0, 5, 1, 7, 0)), 1, Check.lines(1, 3), 0, 1, 0);
    }

    // "shift = p - aStart"
    private static void shiftIsTheLastHunksOwn() {
        int[] a = {5, 1, 2, 7};
        int[] b = {6, 1, 2, 8};
        applied("2 off, then 1 more", Check.diffed(0, a, b, Check.lines(0, 0, 5, 1, 2, 0, 7)), 2,
            Check.lines(2, 6), 0, 0, 6, 1, 2, 0, 8);
        fails("the first is 2 off", Check.diffed(0, a, b, Check.lines(0, 0, 5, 1, 2, 0, 7)), 1, 0);
        // From A's own index the 7 at 3 would be nearest; from the shifted one it is the 7 at 6.
        applied("the shift leads", Check.diffed(0, a, b, Check.lines(0, 0, 5, 7, 0, 0, 7)), 3,
            Check.lines(2, 6), 0, 0, 6, 7, 0, 0, 8);
        applied("the last hunk's own, not a sum", Check.diffed(0, Check.lines(5, 1, 7, 2, 9),
            Check.lines(6, 1, 8, 2, 10), Check.lines(0, 5, 7, 0, 9)), 1, Check.lines(1, 2, 4), 0, 6, 8, 0, 10);
        // Each hunk may be off by maxOffset again: 8, then 8 more.
        int[] far = new int[20];
        far[8] = 5;
        far[19] = 7;
        int[] want = far.clone();
        want[8] = 6;
        want[19] = 8;
        applied("8 off and 8 more", Check.diffed(0, a, b, far), 8, Check.lines(8, 19), want);
        applied("a shift below 0", Check.diffed(0, Check.lines(1, 2, 5, 3, 7), Check.lines(1, 2, 6, 3, 8),
            Check.lines(5, 3, 7)), 2, Check.lines(0, 2), 6, 3, 8);
        fails("a shift below 0, only for the first", Check.diffed(0, Check.lines(1, 2, 5, 3, 7),
            Check.lines(1, 2, 6, 3, 8), Check.lines(5, 3, 0, 0, 0, 7)), 2, 1);
    }

    // Sixteen hunks, each of one line replaced.
    private static PatienceDiff sixteenHunks(int... spoilt) {
        int[] a = new int[32];
        int[] b = new int[32];
        for (int t = 0; t < 16; t++) {
            a[2 * t] = t;
            b[2 * t] = t;
            a[2 * t + 1] = 100 + t;
            b[2 * t + 1] = 200 + t;
        }
        int[] base = a.clone();
        for (int h : spoilt) {
            base[2 * h + 1] = -1;
        }
        return Check.diffed(0, a, b, base);
    }

    // "the call answers APPLY_FAIL_BASE - h (that is, -2 - h) for the first such h"
    private static void failureNamesTheFirstHunk() {
        for (int h = 0; h < 16; h++) {
            fails("hunk " + h, sixteenHunks(h), 8, h);
            for (int later = h + 1; later < 16; later++) {
                fails("hunks " + h + " and " + later, sixteenHunks(later, h), 8, h);
            }
        }
        Check.due("the first is -2", sixteenHunks(0).apply(0), -2);
        Check.due("the last of sixteen is -17", sixteenHunks(15).apply(0), -17);
        fails("the third for want of room", Check.diffed(0, Check.lines(5, 1, 5, 1, 5), Check.lines(6, 1, 7, 1, 8),
            Check.lines(5, 5, 9)), 8, 2);
    }

    // "and changes nothing: an earlier result and its placements stay as they were (present or absent)"
    private static void failureChangesNothing() {
        for (int h = 0; h < 16; h++) {
            PatienceDiff x = sixteenHunks(h);
            Look.changesNothing("apply(8) that fails at " + h, x, () -> x.apply(8));
            Check.noResult("failed at " + h, x);
        }
        int[] a = {5, 1, 7};
        int[] b = {6, 1, 8};
        PatienceDiff first = Check.diffed(0, a, b, Check.lines(0, 5, 1, 7));
        applied("far enough", first, 1, Check.lines(1, 3), 0, 6, 1, 8);
        Look.changesNothing("failing at 0", first, () -> fails("at the first", first, 0, 0));
        PatienceDiff second = Check.diffed(0, a, b, Check.lines(5, 0, 0, 7));
        Look.changesNothing("failing at 1", second, () -> fails("nothing yet", second, 0, 1));
        applied("far enough", second, 1, Check.lines(0, 3), 6, 0, 0, 8);
        Look.changesNothing("failing at 1", second, () -> fails("at the second", second, 0, 1));
        // The first hunk went to 1 both times; the second is found within 8 only.
        PatienceDiff y = Check.diffed(0, a, b, Check.lines(0, 5, 0, 0, 0, 7));
        applied("wide", y, 8, Check.lines(1, 5), 0, 6, 0, 0, 0, 8);
        Look.changesNothing("failing after the first moved", y, () -> fails("narrow", y, 1, 1));
        applied("wide again", y, 2, Check.lines(1, 5), 0, 6, 0, 0, 0, 8);
    }

    // "after the last hunk base[cursor..z) is appended"
    private static void restOfTheBaseFollows() {
        applied("nothing left", Check.diffed(0, Check.lines(5), Check.lines(6), Check.lines(5)), 0, Check.lines(0), 6);
        applied("one left", Check.diffed(0, Check.lines(5), Check.lines(6), Check.lines(5, 9)), 0,
            Check.lines(0), 6, 9);
        int[] base = Check.run(32, 5);
        int[] want = base.clone();
        want[0] = 99;
        applied("31 left", Check.diffed(0, Check.lines(5), Check.lines(99), base), 0, Check.lines(0), want);
    }

    // "the output becomes the result (present, replacing any earlier one)"
    private static void resultReplacesAnEarlierOne() {
        PatienceDiff x = Check.diffed(0, NONE, Check.run(32, 0), Check.run(32, 32));
        applied("the longest", x, 0, Check.lines(0), Check.run(64, 0));
        applied("the same again", x, 8, Check.lines(0), Check.run(64, 0));
        x.clear();
        Check.feed(x, PatienceDiff.SEQ_OLD, 1);
        Check.feed(x, PatienceDiff.SEQ_BASE, 3, 1);
        Check.due("diff()", x.diff(), 0);
        applied("a short one", x, 1, Check.lines(1), 3);
        Check.due("line(3, 1)", x.line(PatienceDiff.SEQ_RESULT, 1), 0);
    }

    // "and the call answers hunkCount()"
    private static void answersTheHunkCount() {
        Check.due("16 hunks", sixteenHunks().apply(0), 16);
        for (State state : State.all()) {
            PatienceDiff x = state.object();
            x.diff();
            int answer = x.apply(8);
            if (answer >= 0) {
                Check.due(state.name() + ": apply(8)", answer, x.hunkCount());
            }
        }
    }

    // "With no hunks the result is a copy of base and the answer is 0."
    private static void withoutHunks() {
        PatienceDiff x = Check.diffed(3, Check.lines(1, 2), Check.lines(1, 2), Check.lines(8, 9));
        for (int maxOffset : Check.ODD_INTS) {
            applied("a copy of base", x, maxOffset, NONE, 8, 9);
        }
        x.addLine(PatienceDiff.SEQ_BASE, 10);
        Check.noResult("before the next apply", x);
        applied("a copy of the longer base", x, Integer.MAX_VALUE, NONE, 8, 9, 10);
        applied("all empty", Check.diffed(0, NONE, NONE, NONE), 5, NONE);
        applied("only base has lines", Check.diffed(0, NONE, NONE, Check.run(32, 1)), 0, NONE, Check.run(32, 1));
        applied("only base has none", Check.diffed(0, Check.run(32, 1), Check.run(32, 1), NONE), 0, NONE);
    }

    // "The diff and the base are not changed by apply, nor are A and B."
    private static void leavesTheRestAlone() {
        PatienceDiff x = Check.diffed(1, Check.lines(1, 2), Check.lines(1, 3), Check.lines(0, 1, 2));
        applied("once", x, 1, Check.lines(1), 0, 1, 3);
        Check.sequence("A stays", x, PatienceDiff.SEQ_OLD, 1, 2);
        Check.sequence("B stays", x, PatienceDiff.SEQ_NEW, 1, 3);
        Check.sequence("base stays", x, PatienceDiff.SEQ_BASE, 0, 1, 2);
        Check.matches("the diff stays", x, 0, -1);
        Check.script("the diff stays", x, 0, 1, 2);
        Check.due("hunkCount() stays", x.hunkCount(), 1);
        Check.hunk("the diff stays", x, 0, 0, 2, 0, 2, 3, 1);
        applied("twice", x, 1, Check.lines(1), 0, 1, 3);
        // With the result dropped again, nothing tells that apply was called.
        PatienceDiff y = Check.diffed(1, Check.lines(1, 2), Check.lines(1, 3), Check.lines(0, 1, 2));
        x.addLine(PatienceDiff.SEQ_BASE, 4);
        y.addLine(PatienceDiff.SEQ_BASE, 4);
        Look.sameRun("applied twice", x, y);
    }

    // "When base equals A (same length, same lines) and the diff is present, apply(x) for any int x answers
    // hunkCount(), and right after it the result equals B"
    private static void baseEqualToAGivesB() {
        int[] repeats = {1, 2, 1, 3, 4, 4, 5, 1};
        int[][] texts = {NONE, {0}, repeats, {2, 1, 1, 3, 9, 4, 1, 5}, {4, 4, 4, 4}, Check.run(32, 0),
            Check.run(32, 16), new int[32]};
        for (int context = 0; context <= 3; context++) {
            for (int[] a : texts) {
                for (int[] b : texts) {
                    PatienceDiff x = Check.diffed(context, a, b, a);
                    for (int maxOffset : Check.ODD_INTS) {
                        Check.due("base is A: apply(" + maxOffset + ")", x.apply(maxOffset), x.hunkCount());
                        Check.sequence("base is A", x, PatienceDiff.SEQ_RESULT, b);
                    }
                }
            }
        }
    }
}
