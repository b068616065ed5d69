// The pairs: what Refine matches, step by step.
// Each method below that stands under a sentence of the document is that sentence's test.
public final class Promise06PairsTest {
    private static final int[] NONE = {};

    public static void main(String[] args) {
        equalIffTheIntsAreEqual();
        step1Prefix();
        step2Suffix();
        step2StopsAtThePrefix();
        step3Stop();
        step4UniqueInBoth();
        step4UniqueInTheGap();
        step4WithoutAnchors();
        step5RankWithoutOneBefore();
        step5GreatestIndexAmongTheLast();
        step5GreatestIndexBefore();
        step5WholeChain();
        step5Gaps();
        step6Lcs();
        step6Tie();
        fullTexts();
        Check.end();
    }

    private static void pairs(String what, int[] a, int[] b, int... want) {
        PatienceDiff x = Check.filled(0, a, b, NONE);
        int k = 0;
        for (int j : want) {
            k += j >= 0 ? 1 : 0;
        }
        Check.due(what + ": diff()", x.diff(), k);
        Check.matches(what, x, want);
        Check.due(what + ": scriptLength()", x.scriptLength(), a.length + b.length - k);
    }

    // "A line is any int; two lines are equal iff the ints are equal."
    private static void equalIffTheIntsAreEqual() {
        for (int hash : Check.ODD_INTS) {
            pairs("the same int " + hash, Check.lines(hash), Check.lines(hash), 0);
            for (int bit = 0; bit < 32; bit++) {
                int near = hash ^ 1 << bit;
                pairs(hash + " and " + near, Check.lines(hash), Check.lines(near), -1);
                pairs(hash + " and " + near + " crossed", Check.lines(hash, near), Check.lines(near, hash), -1, 0);
                pairs(hash + " and " + near + " twice",
                    Check.lines(hash, hash, near, near), Check.lines(near, near, hash, hash), -1, -1, 0, 1);
            }
        }
    }

    // "1. While al < ah and bl < bh and A[al] == B[bl]: match"
    private static void step1Prefix() {
        pairs("both end", Check.lines(4, 4, 5), Check.lines(4, 4, 5), 0, 1, 2);
        pairs("A ends", Check.lines(1, 2), Check.lines(1, 2, 3), 0, 1);
        pairs("B ends", Check.lines(1, 2, 3), Check.lines(1, 2), 0, 1, -1);
        pairs("differ at once", Check.lines(1), Check.lines(2), -1);
        pairs("differ after one", Check.lines(1, 2), Check.lines(1, 3), 0, -1);
        pairs("the prefix comes first", Check.lines(7, 7), Check.lines(7), 0, -1);
        pairs("and in B too", Check.lines(7), Check.lines(7, 7), 0);
    }

    // "2. While al < ah and bl < bh and A[ah-1] == B[bh-1]: match"
    private static void step2Suffix() {
        pairs("A ends", Check.lines(1, 2), Check.lines(9, 1, 2), 1, 2);
        pairs("B ends", Check.lines(9, 1, 2), Check.lines(1, 2), -1, 0, 1);
        pairs("differ before one", Check.lines(8, 2), Check.lines(9, 2), -1, 1);
        pairs("the suffix comes next", Check.lines(1, 7, 7), Check.lines(2, 7), -1, -1, 1);
        pairs("before the anchors", Check.lines(7, 1, 2, 7), Check.lines(3, 7, 4, 7), 1, -1, -1, 3);
        pairs("middle deleted", Check.lines(1, 2, 3), Check.lines(1, 3), 0, -1, 1);
        pairs("middle inserted", Check.lines(1, 3), Check.lines(1, 2, 3), 0, 2);
    }

    // "al < ah and bl < bh", with al and bl moved on by step 1.
    private static void step2StopsAtThePrefix() {
        pairs("A's end is B's whole", Check.lines(1, 2, 1), Check.lines(1), 0, -1, -1);
        pairs("B's end is A's whole", Check.lines(1), Check.lines(1, 2, 1), 0);
        pairs("three and two alike", Check.lines(1, 1, 1), Check.lines(1, 1), 0, 1, -1);
        pairs("two and three alike", Check.lines(1, 1), Check.lines(1, 1, 1), 0, 1);
        pairs("one left for the suffix", Check.lines(1, 2, 1), Check.lines(1, 1), 0, -1, 1);
    }

    // "3. If al == ah or bl == bh: stop (this gap is done)."
    private static void step3Stop() {
        pairs("both empty", NONE, NONE);
        pairs("A empty", NONE, Check.lines(1, 2));
        pairs("B empty", Check.lines(1, 2), NONE, -1, -1);
        pairs("A used up", Check.lines(1, 5), Check.lines(1, 1, 5, 5), 0, 3);
        pairs("B used up", Check.lines(1, 1, 5, 5), Check.lines(1, 5), 0, -1, -1, 1);
    }

    // "that value occurs exactly once in A[al..ah) and exactly once in B[bl..bh)"
    // In these the 2s are the longest match, and only an anchor 9 keeps them from being found.
    private static void step4UniqueInBoth() {
        pairs("once in both",
            Check.lines(9, 2, 2, 2, 2, 1), Check.lines(2, 2, 2, 2, 9, 3), 4, -1, -1, -1, -1, -1);
        pairs("twice in A",
            Check.lines(9, 4, 9, 2, 2, 2, 6), Check.lines(2, 2, 2, 9, 5), -1, -1, -1, 0, 1, 2, -1);
        pairs("twice in B",
            Check.lines(2, 2, 2, 9, 5), Check.lines(9, 4, 9, 2, 2, 2, 6), 3, 4, 5, -1, -1);
        pairs("three times in A",
            Check.lines(9, 9, 9, 2, 2, 2, 2, 6), Check.lines(2, 2, 2, 2, 9, 5), -1, -1, -1, 0, 1, 2, 3, -1);
        pairs("at the gap's first and last line",
            Check.lines(9, 2, 2), Check.lines(2, 2, 9), 2, -1, -1);
        pairs("at the gap's last and first line",
            Check.lines(2, 2, 9), Check.lines(9, 2, 2), -1, -1, 0);
    }

    // "A[al..ah)" and "B[bl..bh)" are what the prefix and the suffix have left.
    private static void step4UniqueInTheGap() {
        pairs("lines of the prefix do not count",
            Check.lines(5, 5, 2, 2, 2, 1), Check.lines(5, 2, 2, 2, 5, 3), 0, 4, -1, -1, -1, -1);
        pairs("lines of the suffix do not count",
            Check.lines(9, 2, 2, 1, 9), Check.lines(2, 2, 9, 3, 9), 2, -1, -1, -1, 4);
        // 1 is the one anchor; right of it 5 is alone, and beats the two 2s.
        pairs("lines of the other gap do not count",
            Check.lines(5, 8, 1, 5, 2, 2, 6), Check.lines(9, 5, 7, 1, 2, 2, 5, 4),
            1, -1, 3, 6, -1, -1, -1);
    }

    // "If there are none, go to 6."
    private static void step4WithoutAnchors() {
        pairs("nothing in common", Check.lines(1, 2), Check.lines(3, 4), -1, -1);
        pairs("one line each", Check.lines(1), Check.lines(3), -1);
        pairs("common, but twice", Check.lines(8, 1, 1, 7), Check.lines(1, 9, 1, 1, 5), -1, 0, 2, -1);
    }

    // "L(p) = 1 if there is no such q"
    private static void step5RankWithoutOneBefore() {
        pairs("a single anchor", Check.lines(8, 1, 7), Check.lines(9, 6, 1, 5), -1, 2, -1);
        pairs("all crossed", Check.lines(1, 2, 3), Check.lines(3, 2, 1), -1, -1, 0);
        // 3 comes after 1 and 2 in A and before both in B: its L is 1, not 2.
        pairs("smaller i alone is not enough", Check.lines(1, 2, 3), Check.lines(3, 1, 2), 1, 2, -1);
    }

    // "The chain's last pair is the anchor with the greatest i among those with L = K"
    private static void step5GreatestIndexAmongTheLast() {
        pairs("the last of equal chains",
            Check.lines(1, 2, 3, 4), Check.lines(3, 4, 1, 2), -1, -1, 0, 1);
        pairs("a longer one beats a later one",
            Check.lines(1, 2, 3, 4, 5), Check.lines(4, 5, 1, 2, 3), 2, 3, 4, -1, -1);
        pairs("two ends for one start",
            Check.lines(1, 2, 3, 8), Check.lines(9, 1, 3, 2, 7), 1, -1, 2, -1);
    }

    // "the anchor with the greatest i among those with i and j smaller than p's and L = l-1"
    private static void step5GreatestIndexBefore() {
        pairs("two starts for one end",
            Check.lines(1, 2, 3, 8), Check.lines(2, 1, 3, 9), -1, 0, 2, -1);
        // Ranks: 1:1, 2:1, 3:2, 4:2, 5:3, so 5, then 4 before 3, then 2 before 1.
        pairs("the tie rule at each step",
            Check.lines(1, 2, 3, 4, 5, 8), Check.lines(2, 1, 4, 3, 5, 9), -1, 0, -1, 2, 4, -1);
        pairs("one step of L at a time",
            Check.lines(1, 2, 3, 8), Check.lines(9, 1, 2, 3, 7), 1, 2, 3, -1);
    }

    // "Match every chain pair"
    private static void step5WholeChain() {
        // Left of 4 alone, 2 and 3 would be anchors and beat 1; but 1 is in the chain already.
        pairs("before any gap is refined",
            Check.lines(1, 2, 3, 4, 2, 3, 8), Check.lines(2, 3, 1, 4, 3, 2, 9), 2, -1, -1, 3, -1, 4, -1);
    }

    // "Refine each of the gaps (al, i1, bl, j1), (i1+1, i2, j1+1, j2), ..., (iK+1, ah, jK+1, bh)"
    private static void step5Gaps() {
        pairs("ends of the gaps",
            Check.lines(10, 5, 1, 5, 20), Check.lines(11, 5, 1, 5, 21), -1, 1, 2, 3, -1);
        pairs("anchors inside the gaps",
            Check.lines(10, 5, 12, 1, 14, 5, 16), Check.lines(11, 5, 13, 1, 15, 5, 17), -1, 1, -1, 3, -1, 5, -1);
        // 1 splits first, then 2 is unique on the left, then 3 left of that.
        pairs("gaps inside gaps",
            Check.lines(40, 3, 41, 2, 42, 3, 43, 1, 44, 2, 45, 3, 46),
            Check.lines(50, 3, 51, 2, 52, 3, 53, 1, 54, 2, 55, 3, 56),
            -1, 1, -1, 3, -1, 5, -1, 7, -1, 9, -1, 11, -1);
        pairs("three gaps around two anchors",
            Check.lines(6, 6, 1, 6, 2, 6, 9), Check.lines(7, 6, 6, 1, 6, 2, 8, 6), 1, 2, 3, 4, 5, 7, -1);
        pairs("an empty first gap in A", Check.lines(1, 8, 2), Check.lines(9, 1, 2, 7), 1, -1, 2);
        pairs("an empty first gap in B", Check.lines(9, 1, 2, 7), Check.lines(1, 8, 2), -1, 0, 2, -1);
        pairs("an empty last gap in A", Check.lines(8, 1), Check.lines(9, 1, 7), -1, 1);
        pairs("an empty last gap in B", Check.lines(8, 1, 7), Check.lines(9, 1), -1, 1, -1);
        // 7 is no anchor here, so only the gap's ends say which of two is matched.
        pairs("a gap starts after its anchor in A",
            Check.lines(8, 1, 7, 2, 10), Check.lines(9, 1, 7, 6, 7, 2, 11), -1, 1, 2, 5, -1);
        pairs("a gap starts after its anchor in B",
            Check.lines(9, 1, 7, 6, 7, 2, 11), Check.lines(8, 1, 7, 2, 10), -1, 1, 2, -1, -1, 3, -1);
        pairs("a gap ends before its anchor",
            Check.lines(8, 1, 6, 7, 2, 10), Check.lines(9, 1, 7, 5, 7, 2, 11), -1, 1, -1, 4, 5, -1);
        pairs("an empty gap between", Check.lines(8, 1, 2, 9), Check.lines(7, 1, 2, 6), -1, 1, 2, -1);
    }

    // "T(i, j) = length of a longest common subsequence of A[i..ah) and B[j..bh)"
    private static void step6Lcs() {
        pairs("a line of B counts once", Check.lines(1, 1), Check.lines(2, 1, 3), -1, 1);
        pairs("a line of A counts once", Check.lines(1, 1), Check.lines(2, 1, 1, 3), 1, 2);
        pairs("B moves on where that is longer",
            Check.lines(1, 1, 1, 2, 2), Check.lines(2, 2, 1, 1, 1), 2, 3, 4, -1, -1);
        pairs("A moves on where that is longer",
            Check.lines(1, 1, 2, 2, 2), Check.lines(2, 2, 2, 1, 1), -1, -1, 0, 1, 2);
        pairs("inside a gap",
            Check.lines(1, 1, 2, 2, 9, 3), Check.lines(2, 2, 1, 1, 9, 4), -1, -1, 0, 1, 4, -1);
        // Past the gap there are more 2s, which must not count.
        pairs("T ends with the gap",
            Check.lines(1, 1, 1, 2, 2, 9, 2, 2, 3), Check.lines(2, 2, 1, 1, 1, 9, 4, 2, 2),
            2, 3, 4, -1, -1, 5, 7, 8, -1);
    }

    // "else if T(i+1, j) >= T(i, j+1) then i++"
    private static void step6Tie() {
        pairs("on a tie A moves on",
            Check.lines(1, 1, 2, 2), Check.lines(2, 2, 1, 1), -1, -1, 0, 1);
        pairs("also where neither leads on",
            Check.lines(3, 1, 1, 2, 2), Check.lines(4, 2, 2, 1, 1), -1, -1, -1, 1, 2);
    }

    // The same steps with CAP = 32 and no room left.
    private static void fullTexts() {
        int[] crossed = new int[32];
        int[] oneAndTwo = new int[32];
        int[] twoAndOne = new int[32];
        int[] shifted = new int[32];
        int[] lastOnly = new int[32];
        for (int t = 0; t < 32; t++) {
            crossed[t] = 31 - t;
            oneAndTwo[t] = 1 + t % 2;
            twoAndOne[t] = 2 - t % 2;
            shifted[t] = t - 1;
            lastOnly[t] = t < 31 ? -1 : 0;
        }
        pairs("32 equal lines", Check.run(32, 0), Check.run(32, 0), Check.run(32, 0));
        pairs("32 lines in common, all crossed", Check.run(32, 0), crossed, lastOnly);
        pairs("LCS of 32 and 32 lines", oneAndTwo, twoAndOne, shifted);
        int[] a = Check.run(32, 0);
        int[] b = Check.run(32, 0);
        int[] thirty = Check.run(32, 0);
        a[0] = 100;
        a[31] = 101;
        b[0] = 200;
        b[31] = 201;
        thirty[0] = -1;
        thirty[31] = -1;
        pairs("a chain of 30 anchors", a, b, thirty);
        pairs("32 lines and 1", Check.run(32, 0), Check.lines(31), lastOnly);
        int[] all31 = Check.run(32, 0);
        all31[31] = -1;
        pairs("32 and 31 lines, all alike", new int[32], new int[31], all31);
    }
}
