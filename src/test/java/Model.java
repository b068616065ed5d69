import java.util.ArrayList;
import java.util.List;

// The document once more, word by word and without thrift, to compare with.
final class Model {
    private record Anchor(int i, int j) {
    }

    private record Op(int kind, int hash) {
    }

    private record Hunk(int aStart, int bStart, List<Op> ops) {
        List<Integer> linesWithout(int kind) {
            List<Integer> lines = new ArrayList<>();
            for (Op op : ops) {
                if (op.kind() != kind) {
                    lines.add(op.hash());
                }
            }
            return lines;
        }

        List<Integer> oldLines() {
            return linesWithout(PatienceDiff.KIND_INSERT);
        }

        List<Integer> newLines() {
            return linesWithout(PatienceDiff.KIND_DELETE);
        }
    }

    private final int cap;
    private final int c;
    private List<Integer> a = new ArrayList<>();
    private List<Integer> b = new ArrayList<>();
    private List<Integer> base = new ArrayList<>();
    private boolean[][] matched;
    private List<Op> script;
    private List<Hunk> hunks;
    private List<Integer> result;
    private List<Integer> places;

    Model(int capacity, int context) {
        cap = Math.min(Math.max(capacity, 1), 32);
        c = Math.min(Math.max(context, 0), 3);
    }

    void clear() {
        a = new ArrayList<>();
        b = new ArrayList<>();
        base = new ArrayList<>();
        dropDiff();
        dropResult();
    }

    private void dropDiff() {
        matched = null;
        script = null;
        hunks = null;
    }

    private void dropResult() {
        result = null;
        places = null;
    }

    private List<Integer> sequence(int seq) {
        return switch (seq) {
            case 0 -> a;
            case 1 -> b;
            case 2 -> base;
            case 3 -> result;
            default -> null;
        };
    }

    int addLine(int seq, int hash) {
        if (seq != 0 && seq != 1 && seq != 2) {
            return -1;
        }
        List<Integer> lines = sequence(seq);
        if (lines.size() == cap) {
            return -1;
        }
        lines.add(hash);
        dropResult();
        if (seq != 2) {
            dropDiff();
        }
        return lines.size();
    }

    int length(int seq) {
        List<Integer> lines = sequence(seq);
        return lines == null ? -1 : lines.size();
    }

    int line(int seq, int index) {
        List<Integer> lines = sequence(seq);
        return lines == null || index < 0 || index >= lines.size() ? 0 : lines.get(index);
    }

    private boolean same(int i, int j) {
        return a.get(i).intValue() == b.get(j).intValue();
    }

    int diff() {
        dropResult();
        matched = new boolean[a.size()][b.size()];
        refine(0, a.size(), 0, b.size());
        writeScript();
        writeHunks();
        int k = 0;
        for (Op op : script) {
            k += op.kind() == 0 ? 1 : 0;
        }
        return k;
    }

    private void refine(int al, int ah, int bl, int bh) {
        while (al < ah && bl < bh && same(al, bl)) {
            matched[al][bl] = true;
            al++;
            bl++;
        }
        while (al < ah && bl < bh && same(ah - 1, bh - 1)) {
            matched[ah - 1][bh - 1] = true;
            ah--;
            bh--;
        }
        if (al == ah || bl == bh) {
            return;
        }
        List<Anchor> anchors = anchors(al, ah, bl, bh);
        if (anchors.isEmpty()) {
            lcs(al, ah, bl, bh);
            return;
        }
        int i = al;
        int j = bl;
        for (Anchor p : chain(anchors)) {
            matched[p.i()][p.j()] = true;
            refine(i, p.i(), j, p.j());
            i = p.i() + 1;
            j = p.j() + 1;
        }
        refine(i, ah, j, bh);
    }

    private static int count(List<Integer> lines, int from, int to, int hash) {
        int count = 0;
        for (int hashThere : lines.subList(from, to)) {
            count += hashThere == hash ? 1 : 0;
        }
        return count;
    }

    private List<Anchor> anchors(int al, int ah, int bl, int bh) {
        List<Anchor> anchors = new ArrayList<>();
        for (int i = al; i < ah; i++) {
            for (int j = bl; j < bh; j++) {
                if (same(i, j) && count(a, al, ah, a.get(i)) == 1 && count(b, bl, bh, a.get(i)) == 1) {
                    anchors.add(new Anchor(i, j));
                }
            }
        }
        return anchors;
    }

    private static int[] ranks(List<Anchor> anchors) {
        int[] rank = new int[anchors.size()];
        for (int p = 0; p < rank.length; p++) {
            rank[p] = 1;
            for (int q = 0; q < p; q++) {
                if (anchors.get(q).j() < anchors.get(p).j()) {
                    rank[p] = Math.max(rank[p], 1 + rank[q]);
                }
            }
        }
        return rank;
    }

    private static List<Anchor> chain(List<Anchor> anchors) {
        int[] rank = ranks(anchors);
        int wanted = 0;
        for (int r : rank) {
            wanted = Math.max(wanted, r);
        }
        List<Anchor> chain = new ArrayList<>();
        for (; wanted >= 1; wanted--) {
            Anchor found = null;
            for (int q = 0; q < rank.length; q++) {
                Anchor other = anchors.get(q);
                boolean before = chain.isEmpty() || other.i() < chain.get(0).i() && other.j() < chain.get(0).j();
                if (rank[q] == wanted && before) {
                    found = other;
                }
            }
            chain.add(0, found);
        }
        return chain;
    }

    // T(i, j), by the rows of a table that is filled from its far corner.
    private int[][] longest(int al, int ah, int bl, int bh) {
        int[][] t = new int[ah + 1][bh + 1];
        for (int i = ah - 1; i >= al; i--) {
            for (int j = bh - 1; j >= bl; j--) {
                t[i][j] = Math.max(t[i + 1][j], t[i][j + 1]);
                if (same(i, j)) {
                    t[i][j] = Math.max(t[i][j], 1 + t[i + 1][j + 1]);
                }
            }
        }
        return t;
    }

    private void lcs(int al, int ah, int bl, int bh) {
        int[][] t = longest(al, ah, bl, bh);
        int i = al;
        int j = bl;
        while (i < ah && j < bh) {
            if (same(i, j)) {
                matched[i][j] = true;
                i++;
                j++;
            } else if (t[i + 1][j] >= t[i][j + 1]) {
                i++;
            } else {
                j++;
            }
        }
    }

    private int partner(int i) {
        for (int j = 0; j < b.size(); j++) {
            if (matched[i][j]) {
                return j;
            }
        }
        return -1;
    }

    private void writeScript() {
        script = new ArrayList<>();
        int i = 0;
        int j = 0;
        while (i < a.size() || j < b.size()) {
            if (i < a.size() && j < b.size() && matched[i][j]) {
                script.add(new Op(0, a.get(i)));
                i++;
                j++;
            } else if (i < a.size() && partner(i) < 0) {
                script.add(new Op(1, a.get(i)));
                i++;
            } else {
                script.add(new Op(2, b.get(j)));
                j++;
            }
        }
    }

    private boolean included(int p) {
        if (script.get(p).kind() != 0) {
            return true;
        }
        for (int q = 0; q < script.size(); q++) {
            int keeps = 0;
            for (int between = Math.min(p, q) + 1; between < Math.max(p, q); between++) {
                keeps += script.get(between).kind() == 0 ? 1 : 0;
            }
            if (script.get(q).kind() != 0 && keeps <= c - 1) {
                return true;
            }
        }
        return false;
    }

    private void writeHunks() {
        hunks = new ArrayList<>();
        int keptOrDeleted = 0;
        int keptOrInserted = 0;
        for (int p = 0; p < script.size(); p++) {
            Op op = script.get(p);
            if (included(p)) {
                if (p == 0 || !included(p - 1)) {
                    hunks.add(new Hunk(keptOrDeleted, keptOrInserted, new ArrayList<>()));
                }
                hunks.get(hunks.size() - 1).ops().add(op);
            }
            keptOrDeleted += op.kind() != 2 ? 1 : 0;
            keptOrInserted += op.kind() != 1 ? 1 : 0;
        }
    }

    int matchOf(int i) {
        return matched == null || i < 0 || i >= a.size() ? -2 : partner(i);
    }

    int scriptLength() {
        return script == null ? -1 : script.size();
    }

    int scriptKind(int p) {
        return script == null || p < 0 || p >= script.size() ? -1 : script.get(p).kind();
    }

    int hunkCount() {
        return hunks == null ? -1 : hunks.size();
    }

    private Hunk hunk(int h) {
        return hunks == null || h < 0 || h >= hunks.size() ? null : hunks.get(h);
    }

    int hunkInfo(int h, int field) {
        Hunk hunk = hunk(h);
        if (hunk == null) {
            return -1;
        }
        return switch (field) {
            case 0 -> hunk.aStart();
            case 1 -> hunk.oldLines().size();
            case 2 -> hunk.bStart();
            case 3 -> hunk.newLines().size();
            case 4 -> hunk.ops().size();
            case 5 -> places == null ? -1 : places.get(h);
            default -> -1;
        };
    }

    private Op hunkOp(int h, int k) {
        Hunk hunk = hunk(h);
        return hunk == null || k < 0 || k >= hunk.ops().size() ? null : hunk.ops().get(k);
    }

    int hunkLineKind(int h, int k) {
        Op op = hunkOp(h, k);
        return op == null ? -1 : op.kind();
    }

    int hunkLineHash(int h, int k) {
        Op op = hunkOp(h, k);
        return op == null ? 0 : op.hash();
    }

    int apply(int maxOffset) {
        if (hunks == null) {
            return -1;
        }
        List<Integer> offsets = new ArrayList<>();
        offsets.add(0);
        for (int s = 1; s <= Math.min(Math.max(maxOffset, 0), 8); s++) {
            offsets.add(-s);
            offsets.add(s);
        }
        int cursor = 0;
        int shift = 0;
        List<Integer> output = new ArrayList<>();
        List<Integer> taken = new ArrayList<>();
        for (int h = 0; h < hunks.size(); h++) {
            Hunk hunk = hunks.get(h);
            int end = -1;
            for (int d : offsets) {
                int p = hunk.aStart() + shift + d;
                end = p + hunk.oldLines().size();
                if (p >= cursor && end <= base.size() && base.subList(p, end).equals(hunk.oldLines())) {
                    output.addAll(base.subList(cursor, p));
                    output.addAll(hunk.newLines());
                    taken.add(p);
                    break;
                }
            }
            if (taken.size() == h) {
                return -2 - h;
            }
            cursor = end;
            shift = taken.get(h) - hunk.aStart();
        }
        output.addAll(base.subList(cursor, base.size()));
        result = output;
        places = taken;
        return hunks.size();
    }
}
