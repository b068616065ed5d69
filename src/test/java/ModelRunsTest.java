import java.util.Random;

// Runs of calls on a PatienceDiff and on the Model; each answer must be the same.
// The seeds are fixed, so every run of the test makes the same calls.
public final class ModelRunsTest {
    private PatienceDiff x;
    private Model model;
    private String story = "";

    private ModelRunsTest(int capacity, int context) {
        x = new PatienceDiff(capacity, context);
        model = new Model(capacity, context);
        story = "new(" + capacity + ", " + context + ")";
    }

    public static void main(String[] args) {
        allShortTexts();
        editedTexts();
        anyCalls();
        Check.end();
    }

    private void addLine(int seq, int hash) {
        story += " add(" + seq + ", " + hash + ")";
        Check.due(story, x.addLine(seq, hash), model.addLine(seq, hash));
    }

    private void addLines(int seq, int[] hashes) {
        for (int hash : hashes) {
            addLine(seq, hash);
        }
    }

    private void diff() {
        story += " diff()";
        Check.due(story, x.diff(), model.diff());
    }

    private void apply(int maxOffset) {
        story += " apply(" + maxOffset + ")";
        Check.due(story, x.apply(maxOffset), model.apply(maxOffset));
    }

    private void clear() {
        story += " clear()";
        x.clear();
        model.clear();
    }

    private void look() {
        for (int seq = -1; seq <= 4; seq++) {
            Check.due(story + " length(" + seq + ")", x.length(seq), model.length(seq));
            for (int t = -1; t <= Math.max(model.length(seq), 0); t++) {
                Check.due(story + " line(" + seq + ", " + t + ")", x.line(seq, t), model.line(seq, t));
            }
        }
        for (int i = -1; i <= model.length(0); i++) {
            Check.due(story + " matchOf(" + i + ")", x.matchOf(i), model.matchOf(i));
        }
        Check.due(story + " scriptLength()", x.scriptLength(), model.scriptLength());
        for (int p = -1; p <= Math.max(model.scriptLength(), 0); p++) {
            Check.due(story + " scriptKind(" + p + ")", x.scriptKind(p), model.scriptKind(p));
        }
        Check.due(story + " hunkCount()", x.hunkCount(), model.hunkCount());
        for (int h = -1; h <= Math.max(model.hunkCount(), 0); h++) {
            lookAtHunk(h);
        }
    }

    private void lookAtHunk(int h) {
        for (int field = -1; field <= 6; field++) {
            Check.due(story + " hunkInfo(" + h + ", " + field + ")", x.hunkInfo(h, field), model.hunkInfo(h, field));
        }
        for (int k = -1; k <= Math.max(model.hunkInfo(h, 4), 0); k++) {
            Check.due(story + " hunkLineKind(" + h + ", " + k + ")", x.hunkLineKind(h, k), model.hunkLineKind(h, k));
            Check.due(story + " hunkLineHash(" + h + ", " + k + ")", x.hunkLineHash(h, k), model.hunkLineHash(h, k));
        }
    }

    private void resultIsNew() {
        Check.due(story + ": apply answers hunkCount()", x.apply(0), x.hunkCount());
        Check.due(story + ": the result is as long as B", x.length(3), x.length(1));
        for (int j = 0; j < x.length(1); j++) {
            Check.due(story + ": the result is B at " + j, x.line(3, j), x.line(1, j));
        }
    }

    // The texts of up to four lines over three hashes, by number.
    private static int[] shortText(int number) {
        int length = 0;
        int texts = 1;
        while (number >= texts) {
            number -= texts;
            texts *= 3;
            length++;
        }
        int[] text = new int[length];
        for (int t = 0; t < length; t++) {
            text[t] = number % 3;
            number /= 3;
        }
        return text;
    }

    private static void allShortTexts() {
        int texts = 1 + 3 + 9 + 27 + 81;
        for (int one = 0; one < texts; one++) {
            for (int other = 0; other < texts; other++) {
                ModelRunsTest run = new ModelRunsTest(32, (one + other) % 4);
                run.addLines(PatienceDiff.SEQ_OLD, shortText(one));
                run.addLines(PatienceDiff.SEQ_NEW, shortText(other));
                run.addLines(PatienceDiff.SEQ_BASE, shortText(one));
                run.diff();
                run.look();
                run.resultIsNew();
            }
        }
    }

    private static int[] text(Random random, int length, int hashes) {
        int[] text = new int[length];
        for (int t = 0; t < length; t++) {
            text[t] = random.nextInt(hashes);
        }
        return text;
    }

    // Drops, changes and adds lines, and now and then swaps the two halves.
    private static int[] edited(Random random, int[] text, int hashes, int rate) {
        int[] made = new int[64];
        int length = 0;
        int turn = random.nextInt(4) == 0 ? text.length / 2 : 0;
        for (int t = 0; t < text.length && length < 32; t++) {
            int what = random.nextInt(100) < rate ? random.nextInt(3) : 3;
            if (what == 0) {
                continue;
            }
            made[length++] = what == 1 ? random.nextInt(hashes) : text[(t + turn) % text.length];
            if (what == 2) {
                made[length++] = random.nextInt(hashes);
            }
        }
        return java.util.Arrays.copyOf(made, Math.min(length, 32));
    }

    private static void editedTexts() {
        Random random = new Random(20261115);
        for (int round = 0; round < 6000; round++) {
            int hashes = 2 + random.nextInt(40);
            int[] a = text(random, random.nextInt(33), hashes);
            ModelRunsTest run = new ModelRunsTest(32, random.nextInt(4));
            run.addLines(PatienceDiff.SEQ_OLD, a);
            run.addLines(PatienceDiff.SEQ_NEW, edited(random, a, hashes, 5 + random.nextInt(60)));
            run.addLines(PatienceDiff.SEQ_BASE, edited(random, a, hashes, random.nextInt(20)));
            run.diff();
            run.look();
            run.apply(8);
            run.look();
            run.apply(random.nextInt(11) - 1);
            run.look();
        }
    }

    private static int anyInt(Random random, int few) {
        return random.nextInt(8) == 0 ? Check.ODD_INTS[random.nextInt(Check.ODD_INTS.length)] : random.nextInt(few);
    }

    private static void anyCalls() {
        Random random = new Random(7);
        for (int round = 0; round < 400; round++) {
            ModelRunsTest run = new ModelRunsTest(anyInt(random, 12), anyInt(random, 4));
            int hashes = 2 + random.nextInt(12);
            for (int step = 0; step < 120; step++) {
                int what = random.nextInt(100);
                if (what < 75) {
                    run.addLine(anyInt(random, 3), anyInt(random, hashes));
                } else if (what < 86) {
                    run.diff();
                } else if (what < 98) {
                    run.apply(anyInt(random, 9));
                } else {
                    run.clear();
                }
                run.look();
            }
        }
    }
}
