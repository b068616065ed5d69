public final class PatienceDiff {
    public static final int SEQ_OLD = 0;
    public static final int SEQ_NEW = 1;
    public static final int SEQ_BASE = 2;
    public static final int SEQ_RESULT = 3;

    public static final int KIND_KEEP = 0;
    public static final int KIND_DELETE = 1;
    public static final int KIND_INSERT = 2;

    public static final int F_A_START = 0;
    public static final int F_A_LEN = 1;
    public static final int F_B_START = 2;
    public static final int F_B_LEN = 3;
    public static final int F_SIZE = 4;
    public static final int F_APPLIED_AT = 5;

    public static final int REFUSED = -1;
    public static final int MATCH_DELETED = -1;
    public static final int MATCH_INVALID = -2;
    public static final int APPLY_NO_DIFF = -1;
    public static final int APPLY_FAIL_BASE = -2;

    private static final int MAX_LINES = 32;
    private static final int MAX_CONTEXT = 3;
    private static final int MAX_OFFSET = 8;

    // Without a single pair the script deletes all of A and inserts all of B;
    // no hunk is empty, so there are never more hunks than ops.
    private static final int MAX_OPS = 64;

    // apply deletes none of base and inserts all of B at the worst.
    private static final int MAX_RESULT = 64;

    // A chain of K anchors leaves K + 1 gaps and uses up K of the 32 lines of A:
    // the first gap and at most two for each line of A.
    private static final int MAX_GAPS = 65;

    // One row and one column more than lines, for the empty ends.
    private static final int LCS_WIDTH = 33;
    private static final int LCS_CELLS = 1089;

    private static final int NOWHERE = -1;

    private final int capacity;
    private final int context;

    private final int[] oldLines = new int[MAX_LINES];
    private final int[] newLines = new int[MAX_LINES];
    private final int[] baseLines = new int[MAX_LINES];
    private final int[] resultLines = new int[MAX_RESULT];
    private int oldCount;
    private int newCount;
    private int baseCount;
    private int resultCount;

    private boolean hasDiff;
    private boolean hasResult;

    private final int[] partner = new int[MAX_LINES];
    private int pairCount;

    private final int[] opKind = new int[MAX_OPS];
    private final int[] opHash = new int[MAX_OPS];
    private final boolean[] opIncluded = new boolean[MAX_OPS];
    private int opCount;

    private final int[] hunkFirstOp = new int[MAX_OPS];
    private final int[] hunkSize = new int[MAX_OPS];
    private final int[] hunkOldStart = new int[MAX_OPS];
    private final int[] hunkOldLength = new int[MAX_OPS];
    private final int[] hunkNewStart = new int[MAX_OPS];
    private final int[] hunkNewLength = new int[MAX_OPS];
    private int hunkTotal;

    // An apply that fails must leave the earlier placements alone, so a run
    // places on trial first.
    private final int[] trialPlace = new int[MAX_OPS];
    private final int[] appliedPlace = new int[MAX_OPS];

    private final int[] gapOldFrom = new int[MAX_GAPS];
    private final int[] gapOldTo = new int[MAX_GAPS];
    private final int[] gapNewFrom = new int[MAX_GAPS];
    private final int[] gapNewTo = new int[MAX_GAPS];
    private int gapCount;

    private final int[] anchorOld = new int[MAX_LINES];
    private final int[] anchorNew = new int[MAX_LINES];
    private final int[] anchorRank = new int[MAX_LINES];
    private int anchorCount;

    private final int[] lcs = new int[LCS_CELLS];

    public PatienceDiff(int capacity, int context) {
        this.capacity = clamp(capacity, 1, MAX_LINES);
        this.context = clamp(context, 0, MAX_CONTEXT);
    }

    public void clear() {
        oldCount = 0;
        newCount = 0;
        baseCount = 0;
        hasDiff = false;
        hasResult = false;
    }

    public int addLine(int seq, int hash) {
        if (seq < SEQ_OLD || seq > SEQ_BASE) {
            return REFUSED;
        }
        int at = length(seq);
        if (at >= capacity) {
            return REFUSED;
        }
        if (seq == SEQ_OLD) {
            oldLines[at] = hash;
            oldCount = at + 1;
            hasDiff = false;
        } else if (seq == SEQ_NEW) {
            newLines[at] = hash;
            newCount = at + 1;
            hasDiff = false;
        } else {
            baseLines[at] = hash;
            baseCount = at + 1;
        }
        hasResult = false;
        return at + 1;
    }

    public int length(int seq) {
        if (seq == SEQ_OLD) {
            return oldCount;
        }
        if (seq == SEQ_NEW) {
            return newCount;
        }
        if (seq == SEQ_BASE) {
            return baseCount;
        }
        if (seq == SEQ_RESULT && hasResult) {
            return resultCount;
        }
        return REFUSED;
    }

    public int line(int seq, int index) {
        // A refused length is below every index that gets past the first test.
        int count = length(seq);
        if (index < 0 || index >= count) {
            return 0;
        }
        if (seq == SEQ_OLD) {
            return oldLines[index];
        }
        if (seq == SEQ_NEW) {
            return newLines[index];
        }
        if (seq == SEQ_BASE) {
            return baseLines[index];
        }
        return resultLines[index];
    }

    public int diff() {
        hasResult = false;
        matchLines();
        writeScript();
        includeAfterChanges();
        includeBeforeChanges();
        cutHunks();
        hasDiff = true;
        return pairCount;
    }

    public int matchOf(int i) {
        if (!hasDiff || i < 0 || i >= oldCount) {
            return MATCH_INVALID;
        }
        return partner[i];
    }

    public int scriptLength() {
        return hasDiff ? opCount : REFUSED;
    }

    public int scriptKind(int p) {
        if (!hasDiff || p < 0 || p >= opCount) {
            return REFUSED;
        }
        return opKind[p];
    }

    public int hunkCount() {
        return hasDiff ? hunkTotal : REFUSED;
    }

    public int hunkInfo(int h, int field) {
        if (!isHunk(h)) {
            return REFUSED;
        }
        switch (field) {
            case F_A_START:
                return hunkOldStart[h];
            case F_A_LEN:
                return hunkOldLength[h];
            case F_B_START:
                return hunkNewStart[h];
            case F_B_LEN:
                return hunkNewLength[h];
            case F_SIZE:
                return hunkSize[h];
            case F_APPLIED_AT:
                return hasResult ? appliedPlace[h] : REFUSED;
            default:
                return REFUSED;
        }
    }

    public int hunkLineKind(int h, int k) {
        int op = opOfHunkLine(h, k);
        return op == NOWHERE ? REFUSED : opKind[op];
    }

    public int hunkLineHash(int h, int k) {
        int op = opOfHunkLine(h, k);
        return op == NOWHERE ? 0 : opHash[op];
    }

    public int apply(int maxOffset) {
        if (!hasDiff) {
            return APPLY_NO_DIFF;
        }
        int reach = clamp(maxOffset, 0, MAX_OFFSET);
        int placed = placeHunks(reach);
        if (placed < hunkTotal) {
            return APPLY_FAIL_BASE - placed;
        }
        writeResult();
        return hunkTotal;
    }

    private static int clamp(int value, int low, int high) {
        if (value < low) {
            return low;
        }
        return value > high ? high : value;
    }

    // The gaps do not touch each other, so a queue does the work of the
    // document's recursion, and in any order.
    private void matchLines() {
        pairCount = 0;
        for (int i = 0; i < oldCount; i++) {
            partner[i] = MATCH_DELETED;
        }
        gapCount = 0;
        addGap(0, oldCount, 0, newCount);
        for (int g = 0; g < MAX_GAPS && g < gapCount; g++) {
            refineGap(g);
        }
    }

    private void addGap(int oldFrom, int oldTo, int newFrom, int newTo) {
        if (gapCount >= MAX_GAPS) {
            return;
        }
        gapOldFrom[gapCount] = oldFrom;
        gapOldTo[gapCount] = oldTo;
        gapNewFrom[gapCount] = newFrom;
        gapNewTo[gapCount] = newTo;
        gapCount++;
    }

    private void addPair(int i, int j) {
        partner[i] = j;
        pairCount++;
    }

    private void refineGap(int g) {
        matchPrefix(g);
        matchSuffix(g);
        if (gapOldFrom[g] == gapOldTo[g] || gapNewFrom[g] == gapNewTo[g]) {
            return;
        }
        findAnchors(g);
        if (anchorCount > 0) {
            matchChain(g);
        } else {
            fillLcs(g);
            walkLcs(g);
        }
    }

    private void matchPrefix(int g) {
        int i = gapOldFrom[g];
        int j = gapNewFrom[g];
        while (i < gapOldTo[g] && j < gapNewTo[g] && oldLines[i] == newLines[j]) {
            addPair(i, j);
            i++;
            j++;
        }
        gapOldFrom[g] = i;
        gapNewFrom[g] = j;
    }

    private void matchSuffix(int g) {
        int i = gapOldTo[g];
        int j = gapNewTo[g];
        while (i > gapOldFrom[g] && j > gapNewFrom[g] && oldLines[i - 1] == newLines[j - 1]) {
            i--;
            j--;
            addPair(i, j);
        }
        gapOldTo[g] = i;
        gapNewTo[g] = j;
    }

    private void findAnchors(int g) {
        anchorCount = 0;
        for (int i = gapOldFrom[g]; i < gapOldTo[g]; i++) {
            int inOld = onlyPlace(oldLines, gapOldFrom[g], gapOldTo[g], oldLines[i]);
            int inNew = onlyPlace(newLines, gapNewFrom[g], gapNewTo[g], oldLines[i]);
            if (inOld != NOWHERE && inNew != NOWHERE) {
                anchorOld[anchorCount] = i;
                anchorNew[anchorCount] = inNew;
                anchorCount++;
            }
        }
    }

    private static int onlyPlace(int[] lines, int from, int to, int hash) {
        int place = NOWHERE;
        int seen = 0;
        for (int at = from; at < to; at++) {
            if (lines[at] == hash) {
                place = at;
                seen++;
            }
        }
        return seen == 1 ? place : NOWHERE;
    }

    // An anchor's rank is the document's L; the answer is its K.
    private int rankAnchors() {
        int greatest = 0;
        for (int p = 0; p < anchorCount; p++) {
            int before = 0;
            for (int q = 0; q < p; q++) {
                if (anchorNew[q] < anchorNew[p] && anchorRank[q] > before) {
                    before = anchorRank[q];
                }
            }
            anchorRank[p] = before + 1;
            if (anchorRank[p] > greatest) {
                greatest = anchorRank[p];
            }
        }
        return greatest;
    }

    // The anchors stand by rising A index, so the first one of the wanted rank
    // met on the way back is the one with the greatest A index.
    private void matchChain(int g) {
        int wanted = rankAnchors();
        int oldTo = gapOldTo[g];
        int newTo = gapNewTo[g];
        for (int p = anchorCount - 1; p >= 0; p--) {
            if (anchorRank[p] == wanted && anchorNew[p] < newTo) {
                addPair(anchorOld[p], anchorNew[p]);
                addGap(anchorOld[p] + 1, oldTo, anchorNew[p] + 1, newTo);
                oldTo = anchorOld[p];
                newTo = anchorNew[p];
                wanted--;
            }
        }
        addGap(gapOldFrom[g], oldTo, gapNewFrom[g], newTo);
    }

    private void fillLcs(int g) {
        for (int i = gapOldTo[g]; i >= gapOldFrom[g]; i--) {
            for (int j = gapNewTo[g]; j >= gapNewFrom[g]; j--) {
                int cell = i * LCS_WIDTH + j;
                if (i == gapOldTo[g] || j == gapNewTo[g]) {
                    lcs[cell] = 0;
                } else if (oldLines[i] == newLines[j]) {
                    lcs[cell] = lcs[cell + LCS_WIDTH + 1] + 1;
                } else {
                    int withoutOld = lcs[cell + LCS_WIDTH];
                    int withoutNew = lcs[cell + 1];
                    lcs[cell] = withoutOld > withoutNew ? withoutOld : withoutNew;
                }
            }
        }
    }

    private void walkLcs(int g) {
        int i = gapOldFrom[g];
        int j = gapNewFrom[g];
        while (i < gapOldTo[g] && j < gapNewTo[g]) {
            int cell = i * LCS_WIDTH + j;
            if (oldLines[i] == newLines[j]) {
                addPair(i, j);
                i++;
                j++;
            } else if (lcs[cell + LCS_WIDTH] >= lcs[cell + 1]) {
                i++;
            } else {
                j++;
            }
        }
    }

    private void writeScript() {
        opCount = 0;
        int j = 0;
        for (int i = 0; i < oldCount; i++) {
            if (partner[i] == MATCH_DELETED) {
                addOp(KIND_DELETE, oldLines[i]);
            } else {
                insertUpTo(j, partner[i]);
                addOp(KIND_KEEP, oldLines[i]);
                j = partner[i] + 1;
            }
        }
        insertUpTo(j, newCount);
    }

    private void insertUpTo(int from, int to) {
        for (int j = from; j < to; j++) {
            addOp(KIND_INSERT, newLines[j]);
        }
    }

    private void addOp(int kind, int hash) {
        opKind[opCount] = kind;
        opHash[opCount] = hash;
        opCount++;
    }

    private void includeAfterChanges() {
        int keepsLeft = 0;
        for (int p = 0; p < opCount; p++) {
            if (opKind[p] != KIND_KEEP) {
                opIncluded[p] = true;
                keepsLeft = context;
            } else {
                opIncluded[p] = keepsLeft > 0;
                keepsLeft--;
            }
        }
    }

    // Only adds to what includeAfterChanges has marked.
    private void includeBeforeChanges() {
        int keepsLeft = 0;
        for (int p = opCount - 1; p >= 0; p--) {
            if (opKind[p] != KIND_KEEP) {
                keepsLeft = context;
            } else {
                if (keepsLeft > 0) {
                    opIncluded[p] = true;
                }
                keepsLeft--;
            }
        }
    }

    private void cutHunks() {
        hunkTotal = 0;
        int oldAt = 0;
        int newAt = 0;
        boolean inside = false;
        for (int p = 0; p < opCount; p++) {
            int oldStep = opKind[p] == KIND_INSERT ? 0 : 1;
            int newStep = opKind[p] == KIND_DELETE ? 0 : 1;
            if (opIncluded[p]) {
                if (!inside) {
                    openHunk(p, oldAt, newAt);
                }
                growLastHunk(oldStep, newStep);
            }
            inside = opIncluded[p];
            oldAt += oldStep;
            newAt += newStep;
        }
    }

    private void openHunk(int firstOp, int oldStart, int newStart) {
        hunkFirstOp[hunkTotal] = firstOp;
        hunkSize[hunkTotal] = 0;
        hunkOldStart[hunkTotal] = oldStart;
        hunkOldLength[hunkTotal] = 0;
        hunkNewStart[hunkTotal] = newStart;
        hunkNewLength[hunkTotal] = 0;
        hunkTotal++;
    }

    private void growLastHunk(int oldStep, int newStep) {
        int h = hunkTotal - 1;
        hunkSize[h]++;
        hunkOldLength[h] += oldStep;
        hunkNewLength[h] += newStep;
    }

    private boolean isHunk(int h) {
        return hasDiff && h >= 0 && h < hunkTotal;
    }

    private int opOfHunkLine(int h, int k) {
        if (!isHunk(h) || k < 0 || k >= hunkSize[h]) {
            return NOWHERE;
        }
        return hunkFirstOp[h] + k;
    }

    // Answers how many hunks found a place before the first that found none.
    private int placeHunks(int reach) {
        int cursor = 0;
        int shift = 0;
        for (int h = 0; h < hunkTotal; h++) {
            int place = findPlace(h, hunkOldStart[h] + shift, cursor, reach);
            if (place == NOWHERE) {
                return h;
            }
            trialPlace[h] = place;
            cursor = place + hunkOldLength[h];
            shift = place - hunkOldStart[h];
        }
        return hunkTotal;
    }

    private int findPlace(int h, int expected, int cursor, int reach) {
        for (int offset = 0; offset <= reach; offset++) {
            if (fitsAt(h, expected - offset, cursor)) {
                return expected - offset;
            }
            if (fitsAt(h, expected + offset, cursor)) {
                return expected + offset;
            }
        }
        return NOWHERE;
    }

    // A hunk's OLD lines are a run of A, for its ops are a run of the script.
    private boolean fitsAt(int h, int place, int cursor) {
        if (place < cursor || place + hunkOldLength[h] > baseCount) {
            return false;
        }
        for (int t = 0; t < hunkOldLength[h]; t++) {
            if (baseLines[place + t] != oldLines[hunkOldStart[h] + t]) {
                return false;
            }
        }
        return true;
    }

    private void writeResult() {
        resultCount = 0;
        int cursor = 0;
        for (int h = 0; h < hunkTotal; h++) {
            appendRun(baseLines, cursor, trialPlace[h]);
            appendRun(newLines, hunkNewStart[h], hunkNewStart[h] + hunkNewLength[h]);
            cursor = trialPlace[h] + hunkOldLength[h];
            appliedPlace[h] = trialPlace[h];
        }
        appendRun(baseLines, cursor, baseCount);
        hasResult = true;
    }

    private void appendRun(int[] lines, int from, int to) {
        for (int at = from; at < to; at++) {
            resultLines[resultCount] = lines[at];
            resultCount++;
        }
    }
}
