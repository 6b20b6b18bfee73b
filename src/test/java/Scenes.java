/** Objects that the tests of refused calls begin with: each made anew by the same calls. */
final class Scenes {
    private Scenes() { }

    static final int EMPTY = 0, RICH = 1, FULL = 2, NINE = 3, TEN = 4, SCENES = 5;
    static final String[] NAMES = {"empty", "rich", "full", "nine", "ten"};

    static VoiceHeaps made(int scene) {
        switch (scene) {
            case RICH: return rich();
            case FULL: return full();
            case NINE: return alone(9);
            case TEN: return ten();
            default: return new VoiceHeaps();
        }
    }

    /** 15 ROWS, 4 PIECES in 2 HEAPS, 3 VOICES, 3 WORDS, shown, a TEXT that ends too early. */
    private static VoiceHeaps rich() {
        VoiceHeaps x = Check.ruled("price 9; hush 20; like 60; near 50; turn 5; twice 3;");
        Check.rows(x, 3, 20, 30, 10, 5);
        Check.rows(x, 3, 60, 10, 40, 5);
        x.deaf(1);
        Check.rows(x, 2, 22, 30, 10, 5);
        x.row(1, 2, 3, 4);
        Check.rows(x, 3, 61, 11, 40, 5);
        Check.rows(x, 2, 90, 90, 90, 90);
        x.keep(0, 7);
        x.keep(1, 8);
        x.keep(0, 9);
        x.show();
        x.out(13, 14, 1);
        x.word(0, 3);
        x.word(5, 9);
        x.word(2, 14);
        x.truth(0, 4, 1);
        x.truth(5, 8, 2);
        x.truth(12, 13, 5);
        x.weight(3, 1);
        x.weight(7, 0);
        Check.type(x, "turn 9; price 5");
        return x;
    }

    /** 48 ROWS, 12 WORDS, 6 VOICES, 200 bytes. */
    private static VoiceHeaps full() {
        VoiceHeaps x = Check.ruled("hush 0; price 30;");
        Check.rows(x, 13, 10, 10, 10, 10);
        x.deaf(9);
        Check.rows(x, 13, 50, 50, 50, 50);
        Check.rows(x, 13, 80, 80, 80, 80);
        for (int v = 0; v < 6; v++) {
            x.keep(v % 3, 90 + v);
        }
        x.show();
        for (int w = 0; w < 12; w++) {
            x.word(w, 4 * w);
        }
        x.truth(10, 30, 4);
        Check.type(x, " ".repeat(192) + "hush 99;");
        return x;
    }

    /** So many PIECES, each alone in its HEAP, the first of them kept and all shown. */
    private static VoiceHeaps alone(int pieces) {
        VoiceHeaps x = Check.ruled("hush 0; like 1;");
        for (int p = 0; p < pieces; p++) {
            x.row(9 * p + 5, p, 0, 0);
            x.deaf(1);
        }
        x.keep(0, 33);
        x.show();
        x.word(0, 6);
        x.truth(0, 9, 3);
        return x;
    }

    /** Nine PIECES that were kept and shown, and then a tenth, and one ROW taken out to make a difference. */
    private static VoiceHeaps ten() {
        VoiceHeaps x = alone(9);
        x.row(99, 99, 99, 99);
        x.deaf(1);
        x.row(77, 77, 77, 77);
        x.out(0, 0, 1);
        Check.type(x, "like 399");
        return x;
    }

    /** What an object answers to all that can be asked; the object is used up by it. */
    static long[] answersOf(VoiceHeaps x) {
        Answers all = new Answers();
        askCounts(all, x);
        askPieces(all, x);
        askHeaps(all, x);
        // More than 9 PIECES hide what was shown; with half of the ROWS out it is seen.
        all.add(x.out(x.count(0) / 2, x.count(0) - 1, 1));
        all.add(x.pieces(0));
        all.add(x.otherwise());
        all.add(x.worth(0));
        for (int voice = 0; voice < 6; voice++) {
            all.add(x.odds(0, voice, 0));
        }
        all.add(x.back(0, 0));
        all.add(x.rules());
        for (int what = 0; what < 6; what++) {
            all.add(x.rule(what));
        }
        all.add(x.clear());
        for (int voice = 0; voice < 6; voice++) {
            all.add(x.forget(0));
        }
        return all.told();
    }

    private static void askCounts(Answers all, VoiceHeaps x) {
        all.add(x.trace());
        for (int what = 0; what < 6; what++) {
            all.add(x.count(what));
            all.add(x.rule(what));
        }
        for (int what = 0; what < 4; what++) {
            all.add(x.pieces(what));
        }
        for (int what = 0; what < 3; what++) {
            all.add(x.errors(what));
        }
        all.add(x.otherwise());
    }

    private static void askPieces(Answers all, VoiceHeaps x) {
        for (int row = 0; row < x.count(0); row++) {
            all.add(x.of(row));
        }
        for (int p = 0; p < 12 && p < x.pieces(0); p++) {
            for (int what = 0; what < 7; what++) {
                all.add(x.piece(p, what));
            }
        }
        for (int word = 0; word < x.count(4); word++) {
            all.add(x.hung(word, 0));
            all.add(x.hung(word, 1));
        }
    }

    private static void askHeaps(Answers all, VoiceHeaps x) {
        for (int p = 0; p < x.pieces(0) && x.near(0) > 0; p++) {
            all.add(x.heap(p, 0));
            all.add(x.heap(p, 1));
            all.add(x.twice(p, 0));
            all.add(x.sure(0, p));
        }
        for (int what = 0; what < 5; what++) {
            all.add(x.near(what));
        }
        all.add(x.worth(0));
        all.add(x.worth(1));
        for (int heap = 0; heap < x.near(3); heap++) {
            all.add(x.back(heap, 0));
            all.add(x.back(heap, 1));
        }
    }

    /** Answers in a row. */
    private static final class Answers {
        private final long[] given = new long[600];
        private int length;

        void add(long answer) {
            given[length++] = answer;
        }

        long[] told() {
            return java.util.Arrays.copyOf(given, length);
        }
    }
}
