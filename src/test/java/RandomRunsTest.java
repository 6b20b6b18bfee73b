import java.nio.charset.StandardCharsets;
import java.util.Random;

/** Long runs of calls, the same in each run of the test, against SlowVoices; all promises. */
public final class RandomRunsTest {
    private static final int RUNS = 160;
    private static final int CALLS = 500;
    private static final int[] WILD = {-1, -2, 9, 10, 48, 100, 513, Integer.MIN_VALUE, Integer.MAX_VALUE};
    private static final String[] WORDS = {"price", "hush", "like", "near", "turn", "twice"};
    private static final int[] MOST = {999, 399, 399, 9999, 999, 399};
    private static final String[] NOISE = {" ", ";", "0", "7", "99", "like", "x", "#", "\u00e9", "  ", "12345", "Near"};

    private final Random random;
    private final VoiceHeaps fast = new VoiceHeaps();
    private final SlowVoices slow = new SlowVoices();
    private final int values;
    private final int wildness;
    private final int rowsWanted;
    private final int[][] speakers;
    private String said = "";

    private RandomRunsTest(int seed) {
        random = new Random(seed);
        // Few values make ties; few wild numbers let a run get far.
        values = new int[] {2, 4, 12, 100}[seed % 4];
        wildness = new int[] {0, 3, 12}[seed % 3];
        rowsWanted = 4 + random.nextInt(random.nextInt(3) == 0 ? 45 : 20);
        speakers = new int[3 + random.nextInt(3)][4];
        for (int[] speaker : speakers) {
            for (int i = 0; i < 4; i++) {
                speaker[i] = random.nextInt(95);
            }
        }
        if (seed % 2 == 0) {
            // Some PIECES are two at once only where one speaker is about what two others are together.
            for (int i = 0; i < 4; i++) {
                speakers[0][i] %= 50;
                speakers[1][i] %= 50;
                speakers[speakers.length - 1][i] = speakers[0][i] + speakers[1][i] + random.nextInt(4);
            }
        }
    }

    public static void main(String[] args) {
        int runs = args.length > 0 ? Integer.parseInt(args[0]) : RUNS;
        for (int seed = 0; seed < runs; seed++) {
            RandomRunsTest run = new RandomRunsTest(seed);
            for (int call = 0; call < CALLS; call++) {
                run.oneCall("run " + seed + ", call " + call + ": ");
            }
        }
        for (int seed = 0; seed < 2 * runs; seed++) {
            new RandomRunsTest(seed).twoAtOnce("sums, run " + seed + ": ");
        }
        Check.end();
    }

    /** PIECES about what two others are together, in one HEAP with those that lie a little further off. */
    private void twoAtOnce(String where) {
        said = "hush 0; like " + (8 + random.nextInt(20)) + "; twice " + random.nextInt(5) + "; turn " + random.nextInt(3) + ";";
        Check.type(fast, said);
        byte[] bytes = said.getBytes(StandardCharsets.ISO_8859_1);
        for (byte b : bytes) {
            slow.type(b, 1);
        }
        due(where + said, fast.rules(), slow.rules());
        int step = 1 + random.nextInt(12);
        int[][] lone = new int[2 + random.nextInt(3)][4];
        for (int[] voice : lone) {
            for (int i = 0; i < 4; i++) {
                voice[i] = step * random.nextInt(60 / step);
            }
        }
        int one = random.nextInt(lone.length);
        int other = (one + 1 + random.nextInt(lone.length - 1)) % lone.length;
        int pieces = 5 + random.nextInt(5);
        for (int p = 0; p < pieces; p++) {
            int size = 1 + random.nextInt(3);
            int[] v = new int[4];
            for (int i = 0; i < 4; i++) {
                int alone = p < lone.length ? lone[p][i] : lone[one][i] + lone[other][i];
                v[i] = Math.min(99, alone + (p < lone.length ? 0 : random.nextInt(6)));
            }
            for (int k = 0; k < size; k++) {
                due(where + "row", fast.row(v[0], v[1], v[2], v[3]), slow.row(v[0], v[1], v[2], v[3]));
            }
            due(where + "deaf", fast.deaf(1), slow.deaf(1));
        }
        for (int p = -1; p <= fast.pieces(0); p++) {
            for (int what = 0; what < 2; what++) {
                due(where + "heap(" + p + ", " + what + ")", fast.heap(p, what), slow.heap(p, what));
                due(where + "twice(" + p + ", " + what + ")", fast.twice(p, what), slow.twice(p, what));
            }
        }
    }

    /** Below n mostly, anything now and then. */
    private int below(int n) {
        if (random.nextInt(100) < wildness) {
            return WILD[random.nextInt(WILD.length)];
        }
        return random.nextInt(Math.max(1, n));
    }

    private int someRow() {
        return below(fast.count(0));
    }

    private int somePiece() {
        return below(fast.pieces(0) + (wildness > 0 ? 1 : 0));
    }

    private int someHeap() {
        return below(Math.max(1, fast.near(3)));
    }

    private void oneCall(String where) {
        int dice = random.nextInt(100);
        if (dice < 30 && fast.count(0) < rowsWanted) {
            addRows(where);
        } else if (dice < 42) {
            change(where);
        } else if (dice < 60) {
            askPieces(where);
        } else if (dice < 80) {
            askHeaps(where);
        } else {
            askVoicesAndWords(where);
        }
    }

    private void due(String call, long got, long want) {
        Check.due(call, got, want);
    }

    private void addRows(String where) {
        if (random.nextInt(6) == 0) {
            int n = 1 + below(9);
            n = random.nextInt(3) == 0 ? n : 1;
            due(where + "deaf(" + n + ")", fast.deaf(n), slow.deaf(n));
            return;
        }
        int[] speaker = speakers[random.nextInt(speakers.length)];
        int times = 1 + random.nextInt(5);
        for (int k = 0; k < times; k++) {
            int[] v = new int[4];
            for (int i = 0; i < 4; i++) {
                v[i] = values == 100 || random.nextInt(12) == 0 ? below(100) : Math.min(99, speaker[i] + random.nextInt(values));
            }
            due(where + "row(..)", fast.row(v[0], v[1], v[2], v[3]), slow.row(v[0], v[1], v[2], v[3]));
        }
    }

    private void change(String where) {
        switch (random.nextInt(9)) {
            case 0, 1, 2 -> rules(where);
            case 3, 4 -> {
                int a = someRow();
                int b = random.nextInt(3) == 0 ? someRow() : a == Integer.MAX_VALUE ? a : a + random.nextInt(4);
                int o = below(2);
                due(where + "out(" + a + ", " + b + ", " + o + ")", fast.out(a, b, o), slow.out(a, b, o));
            }
            case 5 -> {
                if (random.nextInt(4) == 0) {
                    due(where + "hush()", fast.hush(), slow.hush());
                }
            }
            case 6 -> due(where + "show()", fast.show(), slow.show());
            case 7 -> {
                int h = someHeap();
                int n = 1 + below(99);
                due(where + "keep(" + h + ", " + n + ")", fast.keep(h, n), slow.keep(h, n));
            }
            default -> {
                int v = below(7);
                if (random.nextInt(3) == 0) {
                    due(where + "forget(" + v + ")", fast.forget(v), slow.forget(v));
                }
            }
        }
    }

    private void rules(String where) {
        StringBuilder text = new StringBuilder();
        int items = random.nextInt(5);
        for (int i = 0; i < items; i++) {
            int k = random.nextInt(6);
            int most = random.nextInt(3) == 0 ? MOST[k] + 2 : Math.min(MOST[k], k == 5 ? 3 : 60);
            text.append(random.nextInt(3) == 0 ? " " : "").append(WORDS[k]).append(random.nextInt(3) == 0 ? "" : " ");
            text.append(random.nextInt(most)).append(random.nextInt(4) == 0 ? " " : "").append(';');
        }
        if (wildness > 0 && random.nextInt(3) == 0) {
            text.insert(random.nextInt(text.length() + 1), NOISE[random.nextInt(NOISE.length)]);
        }
        if (wildness > 0 && text.length() > 0 && random.nextInt(4) == 0) {
            text.setLength(random.nextInt(text.length()));
        }
        said = text.toString();
        byte[] bytes = said.getBytes(StandardCharsets.ISO_8859_1);
        for (int at = 0; at < bytes.length; ) {
            int n = Math.min(bytes.length - at, 1 + random.nextInt(8));
            long v = Check.packed(bytes, at, n) | (n < 8 ? random.nextLong() << (8 * n) : 0);
            due(where + "type", fast.type(v, n), slow.type(v, n));
            at += n;
        }
        int wildBytes = below(8);
        if (wildBytes > 7 || wildBytes < 0) {
            due(where + "type(5, " + wildBytes + ")", fast.type(5, wildBytes), slow.type(5, wildBytes));
        }
        int answer = fast.rules();
        due(where + "rules() of " + said, answer, slow.rules());
        due(where + "count(5)", fast.count(5), slow.count(5));
        if (answer < 0 && random.nextInt(8) != 0) {
            due(where + "clear()", fast.clear(), slow.clear());
        }
        for (int what = -1; what <= 6; what++) {
            due(where + "rule(" + what + ")", fast.rule(what), slow.rule(what));
        }
    }

    private void askPieces(String where) {
        int what = below(4);
        due(where + "pieces(" + what + ")", fast.pieces(what), slow.pieces(what));
        int p = somePiece();
        what = below(7);
        due(where + "piece(" + p + ", " + what + ")", fast.piece(p, what), slow.piece(p, what));
        int r = someRow();
        due(where + "of(" + r + ")", fast.of(r), slow.of(r));
        int q = somePiece();
        due(where + "like(" + p + ", " + q + ")", fast.like(p, q), slow.like(p, q));
        int kind = below(8);
        due(where + "weight(" + kind + ", " + p + ")", fast.weight(kind, p), slow.weight(kind, p));
        due(where + "trace()", fast.trace(), slow.trace());
        what = below(6);
        due(where + "count(" + what + ")", fast.count(what), slow.count(what));
    }

    private void askHeaps(String where) {
        int p = somePiece();
        int q = somePiece();
        int what = below(2);
        due(where + "heap(" + p + ", " + what + ")", fast.heap(p, what), slow.heap(p, what));
        due(where + "worth(" + what + ")", fast.worth(what), slow.worth(what));
        due(where + "twice(" + p + ", " + what + ")", fast.twice(p, what), slow.twice(p, what));
        what = below(5);
        due(where + "near(" + what + ")", fast.near(what), slow.near(what));
        due(where + "sure(" + p + ", " + q + ")", fast.sure(p, q), slow.sure(p, q));
        int heap = someHeap();
        int i = below(4);
        due(where + "middle(" + heap + ", " + i + ")", fast.middle(heap, i), slow.middle(heap, i));
    }

    private void askVoicesAndWords(String where) {
        int heap = someHeap();
        int what = below(2);
        int voice = below(Math.max(1, fast.count(3)));
        due(where + "back(" + heap + ", " + what + ")", fast.back(heap, what), slow.back(heap, what));
        due(where + "odds(" + heap + ", " + voice + ", " + what + ")",
                fast.odds(heap, voice, what), slow.odds(heap, voice, what));
        due(where + "otherwise()", fast.otherwise(), slow.otherwise());
        int a = someRow();
        int b = random.nextInt(3) == 0 ? someRow() : a == Integer.MAX_VALUE ? a : a + random.nextInt(6);
        if (random.nextInt(3) == 0) {
            due(where + "word(" + a + ", " + b + ")", fast.word(a, b), slow.word(a, b));
        }
        int word = below(Math.max(1, fast.count(4)));
        due(where + "hung(" + word + ", " + what + ")", fast.hung(word, what), slow.hung(word, what));
        int v = below(6);
        due(where + "truth(" + a + ", " + b + ", " + v + ")", fast.truth(a, b, v), slow.truth(a, b, v));
        what = below(3);
        due(where + "errors(" + what + ")", fast.errors(what), slow.errors(what));
    }
}
